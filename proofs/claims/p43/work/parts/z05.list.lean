/-! A COPYING'S LISTS: how many, how old, what is reached -/
section LCLIST
variable {up : Nat} {prom : Int32} {ol wl : List Nat} {hk : List (Option Nat)} {rp : Nat → List (Option Nat)} {f : Nat → Nat → Int32} {q : Int32} {σ : z_St}
/-- how many lie in half and loft; how many came into the loft; how old they are -/
def lc_P (wl : List Nat) (f : Nat → Nat → Int32) (q : Int32) (σ : z_St) : Prop :=
  (σ.1.length + σ.2.1.length = σ.2.2.1.length + wl.length ∧ wl.length ≤ σ.2.1.length ∧ σ.2.2.2.2 = q + nI (σ.2.1.length - wl.length)) ∧
  ∀ x, (x ∉ σ.2.2.1 → σ.2.2.2.1 x 1 = f x 1) ∧ (x ∈ σ.2.2.1 → (x ∈ σ.1 ∧ σ.2.2.2.1 x 1 = f x 1 + 1) ∨ (x ∈ σ.2.1 ∧ σ.2.2.2.1 x 1 = f x 1))
theorem lc_P_tk {o : Option Nat} (hp : lc_P wl f q σ) : lc_P wl f q (z_tk up prom ol σ o) := by
  cases o with
  | none => exact hp
  | some x =>
    by_cases hc : x ∈ ol ∧ x ∉ σ.2.2.1
    · obtain ⟨⟨p1, p2, p3⟩, p4⟩ := hp
      rcases z_tk_yes (up := up) (prom := prom) hc with ⟨-, -, e⟩ | e
      · rw [e]
        refine ⟨⟨?_, ?_, ?_⟩, fun y => ⟨fun hy => ?_, fun hy => ?_⟩⟩
        · show σ.1.length + (σ.2.1 ++ [x]).length = (σ.2.2.1 ++ [x]).length + wl.length
          rw [List.length_append, List.length_append]; omega
        · show wl.length ≤ (σ.2.1 ++ [x]).length
          rw [List.length_append]; omega
        · show σ.2.2.2.2 + 1 = q + nI ((σ.2.1 ++ [x]).length - wl.length)
          rw [p3, List.length_append, Int32.add_assoc, nI_1]
          congr 2
          show _ = σ.2.1.length + 1 - wl.length
          omega
        · have hy : y ∉ σ.2.2.1 ++ [x] := hy
          have hyx : y ≠ x := fun e2 => hy (by rw [e2]; simp)
          have hyt : y ∉ σ.2.2.1 := fun h => hy (List.mem_append_left _ h)
          show q_u2 (q_u2 σ.2.2.2.1 x 2 _) x 3 1 y 1 = f y 1
          rw [q_u2_row _ _ _ _ _ hyx, q_u2_row _ _ _ _ _ hyx]
          exact (p4 y).1 hyt
        · have hy : y ∈ σ.2.2.1 ++ [x] := hy
          show (y ∈ σ.1 ∧ q_u2 (q_u2 σ.2.2.2.1 x 2 _) x 3 1 y 1 = f y 1 + 1) ∨ (y ∈ σ.2.1 ++ [x] ∧ q_u2 (q_u2 σ.2.2.2.1 x 2 _) x 3 1 y 1 = f y 1)
          by_cases hyx : y = x
          · subst hyx
            refine Or.inr ⟨by simp, ?_⟩
            rw [q_u2_j _ _ _ _ _ _ (by decide), q_u2_j _ _ _ _ _ _ (by decide)]
            exact (p4 y).1 hc.2
          · rw [q_u2_row _ _ _ _ _ hyx, q_u2_row _ _ _ _ _ hyx]
            rcases List.mem_append.mp hy with hy | hy
            · exact ((p4 y).2 hy).imp id (fun h => ⟨List.mem_append_left _ h.1, h.2⟩)
            · exact absurd (List.mem_singleton.mp hy) hyx
      · rw [e]
        refine ⟨⟨?_, p2, p3⟩, fun y => ⟨fun hy => ?_, fun hy => ?_⟩⟩
        · show (σ.1 ++ [x]).length + σ.2.1.length = (σ.2.2.1 ++ [x]).length + wl.length
          rw [List.length_append, List.length_append]; omega
        · have hy : y ∉ σ.2.2.1 ++ [x] := hy
          have hyx : y ≠ x := fun e2 => hy (by rw [e2]; simp)
          have hyt : y ∉ σ.2.2.1 := fun h => hy (List.mem_append_left _ h)
          show q_u2 (q_u2 σ.2.2.2.1 x 2 _) x 1 _ y 1 = f y 1
          rw [q_u2_row _ _ _ _ _ hyx, q_u2_row _ _ _ _ _ hyx]
          exact (p4 y).1 hyt
        · have hy : y ∈ σ.2.2.1 ++ [x] := hy
          show (y ∈ σ.1 ++ [x] ∧ q_u2 (q_u2 σ.2.2.2.1 x 2 _) x 1 _ y 1 = f y 1 + 1) ∨ (y ∈ σ.2.1 ∧ q_u2 (q_u2 σ.2.2.2.1 x 2 _) x 1 _ y 1 = f y 1)
          by_cases hyx : y = x
          · subst hyx
            refine Or.inl ⟨by simp, ?_⟩
            rw [q_u2_s, (p4 y).1 hc.2]
          · rw [q_u2_row _ _ _ _ _ hyx, q_u2_row _ _ _ _ _ hyx]
            rcases List.mem_append.mp hy with hy | hy
            · exact ((p4 y).2 hy).imp (fun h => ⟨List.mem_append_left _ h.1, h.2⟩) id
            · exact absurd (List.mem_singleton.mp hy) hyx
    · rw [z_tk, if_neg hc]; exact hp
theorem lc_P_copy : lc_P wl f q (z_copy rp up prom ol wl hk f q) :=
  z_copy_inds (fun _ _ hp => lc_P_tk hp) ⟨⟨by simp, Nat.le_refl _, by rw [Nat.sub_self]; exact (Int32.add_zero q).symm⟩, fun x => ⟨fun _ => rfl, fun h => by simp at h⟩⟩
/-- all that is taken is of C, if hooks hold and the loft leads to such alone -/
theorem lc_tk_C {C : Nat → Prop} {o : Option Nat} (ho : ∀ x, o = some x → C x) (h : ∀ x ∈ σ.2.2.1, C x) : ∀ x ∈ (z_tk up prom ol σ o).2.2.1, C x := by
  rw [z_tk_len]
  cases o with
  | none => exact h
  | some x =>
    dsimp only
    by_cases hc : x ∈ ol ∧ x ∉ σ.2.2.1
    · rw [if_pos hc]
      intro y hy
      rcases List.mem_append.mp hy with hy | hy
      · exact h y hy
      · rw [List.mem_singleton.mp hy]; exact ho x rfl
    · rw [if_neg hc]; exact h
theorem lc_tks_C {C : Nat → Prop} : ∀ (os : List (Option Nat)) (σ : z_St), (∀ x, some x ∈ os → C x) → (∀ x ∈ σ.2.2.1, C x) → ∀ x ∈ (os.foldl (z_tk up prom ol) σ).2.2.1, C x
  | [], _, _, h => h
  | o :: t, σ, ho, h => lc_tks_C t _ (fun x hx => ho x (List.mem_cons_of_mem _ hx)) (lc_tk_C (fun x e => ho x (by rw [← e]; exact List.mem_cons_self)) h)
theorem lc_cw_C {C : Nat → Prop} {p : Int32} : ∀ (l : List Nat) (σ : z_St), (∀ y ∈ l, ∀ x, some x ∈ rp y → C x) → (∀ x ∈ σ.2.2.1, C x) → ∀ x ∈ (l.foldl (z_cw rp up prom ol p) σ).2.2.1, C x
  | [], _, _, h => h
  | y :: t, σ, ho, h => by
    refine lc_cw_C t _ (fun z hz => ho z (List.mem_cons_of_mem _ hz)) ?_
    unfold z_cw
    split
    · exact lc_tks_C _ _ (ho y List.mem_cons_self) h
    · exact h
theorem lc_cp2_C {C : Nat → Prop} (ho : ∀ y ∈ wl, ∀ x, some x ∈ rp y → C x) : ∀ (n p : Nat) (σ : z_St), (∀ x ∈ σ.2.2.1, C x) → ∀ x ∈ (z_cp2 rp up prom ol wl p n σ).2.2.1, C x
  | 0, _, _, h => h
  | n + 1, p, σ, h => by
    show ∀ x ∈ (z_cp2 rp up prom ol wl (p + 1) n (wl.foldl (z_cw rp up prom ol (nI p)) σ)).2.2.1, C x
    exact lc_cp2_C ho n (p + 1) _ (lc_cw_C wl σ ho h)
theorem lc_cp3_C {C : Nat → Prop} (hC : ∀ y, C y → ∀ x, some x ∈ rp y → C x) : ∀ (n k : Nat) (σ : z_St), (∀ x ∈ σ.2.2.1, C x) → ∀ x ∈ (z_cp3 rp up prom ol n k σ).2.2.1, C x
  | 0, _, _, h => h
  | n + 1, k, σ, h => by
    show ∀ x ∈ (match σ.2.2.1[k]? with | none => σ | some x => z_cp3 rp up prom ol n (k + 1) ((rp x).foldl (z_tk up prom ol) σ)).2.2.1, C x
    split
    · exact h
    · next y hy => exact lc_cp3_C hC n (k + 1) _ (lc_tks_C _ _ (hC y (h y (List.mem_of_getElem? hy))) h)
theorem lc_copy_C {C : Nat → Prop} (h1 : ∀ x, some x ∈ hk → C x) (h2 : ∀ y ∈ wl, ∀ x, some x ∈ rp y → C x) (h3 : ∀ y, C y → ∀ x, some x ∈ rp y → C x) : ∀ x ∈ (z_copy rp up prom ol wl hk f q).2.2.1, C x :=
  lc_cp3_C h3 _ _ _ (lc_cp2_C h2 _ _ _ (lc_tks_C _ _ h1 (fun x hx => by simp at hx)))
/-- what is reached is closed -/
theorem lc_add_sub {l : List Nat} {o : Option Nat} : (∀ x ∈ l, x ∈ z_add l o) ∧ ∀ x, o = some x → x ∈ z_add l o := by
  cases o with
  | none => exact ⟨fun x h => h, fun x h => by cases h⟩
  | some y =>
    show (∀ x ∈ l, x ∈ (if y ∈ l then l else l ++ [y])) ∧ ∀ x, some y = some x → x ∈ (if y ∈ l then l else l ++ [y])
    by_cases hy : y ∈ l
    · rw [if_pos hy]; exact ⟨fun x h => h, fun x h => by cases h; exact hy⟩
    · rw [if_neg hy]; exact ⟨fun x h => List.mem_append_left _ h, fun x h => by cases h; simp⟩
theorem lc_adds_sub : ∀ (os : List (Option Nat)) (l : List Nat), (∀ x ∈ l, x ∈ z_adds l os) ∧ ∀ x, some x ∈ os → x ∈ z_adds l os
  | [], l => ⟨fun x h => h, fun x h => by cases h⟩
  | o :: t, l => by
    obtain ⟨a1, a2⟩ := lc_add_sub (l := l) (o := o)
    obtain ⟨b1, b2⟩ := lc_adds_sub t (z_add l o)
    refine ⟨fun x h => b1 x (a1 x h), fun x h => ?_⟩
    rcases List.mem_cons.mp h with h | h
    · exact b1 x (a2 x h.symm)
    · exact b2 x h
theorem lc_add_pre {l : List Nat} {o : Option Nat} : ∃ t, z_add l o = l ++ t := by
  cases o with
  | none => exact ⟨[], by simp [z_add]⟩
  | some y =>
    show ∃ t, (if y ∈ l then l else l ++ [y]) = l ++ t
    by_cases hy : y ∈ l
    · exact ⟨[], by rw [if_pos hy, List.append_nil]⟩
    · exact ⟨[y], by rw [if_neg hy]⟩
theorem lc_adds_pre : ∀ (os : List (Option Nat)) (l : List Nat), ∃ t, z_adds l os = l ++ t
  | [], l => ⟨[], by simp [z_adds]⟩
  | o :: r, l => by
    obtain ⟨t1, e1⟩ := lc_add_pre (l := l) (o := o)
    obtain ⟨t2, e2⟩ := lc_adds_pre r (z_add l o)
    exact ⟨t1 ++ t2, by show z_adds (z_add l o) r = _; rw [e2, e1, List.append_assoc]⟩
theorem lc_bfs_cl {U : Nat → Prop} {B : Nat} (hU : ∀ x, U x → ∀ y, some y ∈ rp x → U y) (hB : ∀ l : List Nat, l.Nodup → (∀ x ∈ l, U x) → l.length ≤ B) : ∀ (n k : Nat) (l : List Nat), n + k = B + 1 → k ≤ l.length → l.Nodup → (∀ x ∈ l, U x) → (∀ (j x : Nat), j < k → l[j]? = some x → ∀ y, some y ∈ rp x → y ∈ l) →
    (∀ x ∈ l, x ∈ z_bfs rp n k l) ∧ ∀ x ∈ z_bfs rp n k l, ∀ y, some y ∈ rp x → y ∈ z_bfs rp n k l
  | 0, k, l, h1, h2, h3, h4, _ => by
    have := hB l h3 h4
    omega
  | n + 1, k, l, h1, h2, h3, h4, h5 => by
    cases hx : l[k]? with
    | none =>
      have e : z_bfs rp (n + 1) k l = l := by
        show (match l[k]? with | none => l | some x => z_bfs rp n (k + 1) (z_adds l (rp x))) = l
        rw [hx]
      rw [e]
      have hk : l.length ≤ k := List.getElem?_eq_none_iff.mp hx
      refine ⟨fun x h => h, fun x h y hy => ?_⟩
      obtain ⟨j, hj, ej⟩ := List.getElem_of_mem h
      exact h5 j x (by omega) (by rw [List.getElem?_eq_getElem hj, ej]) y hy
    | some x =>
      have e : z_bfs rp (n + 1) k l = z_bfs rp n (k + 1) (z_adds l (rp x)) := by
        show (match l[k]? with | none => l | some x => z_bfs rp n (k + 1) (z_adds l (rp x))) = _
        rw [hx]
      rw [e]
      have hkl := (List.getElem?_eq_some_iff.mp hx).1
      have hxU := h4 x (List.mem_of_getElem? hx)
      obtain ⟨a1, a2⟩ := z_adds_U (U := U) h3 h4 (hU x hxU)
      obtain ⟨s1, s2⟩ := lc_adds_sub (rp x) l
      obtain ⟨t, et⟩ := lc_adds_pre (rp x) l
      obtain ⟨r1, r2⟩ := lc_bfs_cl hU hB n (k + 1) (z_adds l (rp x)) (by omega) (by rw [et, List.length_append]; omega) a1 a2 (fun j z hj hz y hy => by
        rcases Nat.lt_or_ge j k with hjk | hjk
        · rw [et, List.getElem?_append_left (by omega)] at hz
          exact s1 y (h5 j z hjk hz y hy)
        · obtain rfl : j = k := by omega
          rw [et, List.getElem?_append_left hkl, hx] at hz
          cases hz
          exact s2 y hy)
      exact ⟨fun z hz => r1 z (s1 z hz), r2⟩
end LCLIST
