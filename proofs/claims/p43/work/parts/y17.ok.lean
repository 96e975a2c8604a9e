/-! THE LAW'S BARN: what holds of it, and that a copying keeps it -/
section ZOK
variable {g : q_G} {d : Nat} {h h' : q_H} {s up : Nat} {hl ll : List Nat} {hk : List (Option Nat)} {U : Nat → Prop} {B : Nat} {prom : Int32} {ol wl : List Nat} {rp : Nat → List (Option Nat)} {σ : z_St}
theorem z_tk_inds {P : z_St → Prop} (h : ∀ σ o, P σ → P (z_tk up prom ol σ o)) : ∀ (os : List (Option Nat)) σ, P σ → P (os.foldl (z_tk up prom ol) σ)
  | [], _, hp => hp
  | o :: t, σ, hp => z_tk_inds h t _ (h σ o hp)
theorem z_cw_inds {P : z_St → Prop} (h : ∀ σ o, P σ → P (z_tk up prom ol σ o)) {p : Int32} : ∀ (l : List Nat) σ, P σ → P (l.foldl (z_cw rp up prom ol p) σ)
  | [], _, hp => hp
  | x :: t, σ, hp => by
    refine z_cw_inds h t _ ?_
    unfold z_cw
    split
    · exact z_tk_inds h _ _ hp
    · exact hp
theorem z_cp2_inds {P : z_St → Prop} (h : ∀ σ o, P σ → P (z_tk up prom ol σ o)) : ∀ n p σ, P σ → P (z_cp2 rp up prom ol wl p n σ)
  | 0, _, _, hp => hp
  | n + 1, p, σ, hp => by
    show P (z_cp2 rp up prom ol wl (p + 1) n (wl.foldl (z_cw rp up prom ol (nI p)) σ))
    exact z_cp2_inds h n (p + 1) _ (z_cw_inds h wl σ hp)
theorem z_cp3_inds {P : z_St → Prop} (h : ∀ σ o, P σ → P (z_tk up prom ol σ o)) : ∀ n k σ, P σ → P (z_cp3 rp up prom ol n k σ)
  | 0, _, _, hp => hp
  | n + 1, k, σ, hp => by
    show P (match σ.2.2.1[k]? with | none => σ | some x => z_cp3 rp up prom ol n (k + 1) ((rp x).foldl (z_tk up prom ol) σ))
    split
    · exact hp
    · exact z_cp3_inds h n (k + 1) _ (z_tk_inds h _ _ hp)
theorem z_copy_inds {P : z_St → Prop} {f : Nat → Nat → Int32} {q : Int32} (h : ∀ σ o, P σ → P (z_tk up prom ol σ o)) (h0 : P ([], wl, [], f, q)) : P (z_copy rp up prom ol wl hk f q) :=
  z_cp3_inds h _ _ _ (z_cp2_inds h _ _ _ (z_tk_inds h _ _ h0))
theorem z_Iw_tk {o : Option Nat} (hI : z_Iv U up ol σ) (hw : ∀ x ∈ σ.1, x ∉ σ.2.1) : ∀ x ∈ (z_tk up prom ol σ o).1, x ∉ (z_tk up prom ol σ o).2.1 := by
  cases o with
  | none => exact hw
  | some x =>
    by_cases hc : x ∈ ol ∧ x ∉ σ.2.2.1
    · have htk := z_tk_yes (up := up) (prom := prom) hc
      obtain ⟨hxo, hxt⟩ := hc
      obtain ⟨⟨i1a, i1b⟩, ⟨i2a, i2b⟩, -, -, -, -⟩ := hI
      have hxh : x ∉ σ.1 := fun hm => hxt (i1a x hm)
      have hxl : x ∉ σ.2.1 := fun hm => (i2a x hm).2.elim (fun z => hxt z) (fun z => z hxo)
      rcases htk with ⟨-, -, htk⟩ | htk
      · rw [htk]
        intro y hy hm
        rcases List.mem_append.mp hm with hm | hm
        · exact hw y hy hm
        · rw [List.mem_singleton.mp hm] at hy; exact hxh hy
      · rw [htk]
        intro y hy hm
        rcases List.mem_append.mp hy with hy | hy
        · exact hw y hy hm
        · rw [List.mem_singleton.mp hy] at hm; exact hxl hm
    · rw [z_tk, if_neg hc]; exact hw
theorem z_Iv_copy {f : Nat → Nat → Int32} {q : Int32} (h0 : z_Iv U up ol ([], wl, [], f, q)) (h16 : up < 65536) : z_Iv U up ol (z_copy rp up prom ol wl hk f q) ∧ ∀ x ∈ (z_copy rp up prom ol wl hk f q).1, x ∉ (z_copy rp up prom ol wl hk f q).2.1 :=
  z_copy_inds (P := fun σ => z_Iv U up ol σ ∧ ∀ x ∈ σ.1, x ∉ σ.2.1) (fun σ o hp => ⟨z_Iv_tk hp.1 h16, z_Iw_tk hp.1 hp.2⟩) ⟨h0, fun x hx => by simp at hx⟩
/-- the barn by hand, as it is between two doings -/
def z_OK (h : q_H) (s : Nat) (hl ll : List Nat) (hk : List (Option Nat)) (up : Nat) : Prop :=
  z_Sim h s hl ll hk ∧ z_Wf h (fun x => x ∈ hl ++ ll) ∧ s ∉ hl ++ ll ∧ (∀ x, some x ∈ hk → x ∈ hl ++ ll) ∧ (hl ++ ll).Nodup ∧ (q_I h s 4 = nI up ∧ up < 65536) ∧
  (∀ x ∈ ll, ∃ p z, q_I h x 2 = nI p ∧ q_I h x 0 = nI z ∧ p + z ≤ up) ∧ (∀ x, x ∈ hl ++ ll → ∃ z, 0 < z ∧ z < 65536 ∧ q_I h x 0 = nI z) ∧ z_Sp h s (fun x => x ∈ hl ++ ll)
theorem z_OK_Iv (hO : z_OK h s hl ll hk up) {q : Int32} : z_Iv (fun x => x ∈ hl ++ ll) up hl ([], ll, [], q_I h, q) := by
  obtain ⟨-, -, -, -, o5, -, o7, o8, -⟩ := hO
  obtain ⟨n1, n2, n3⟩ := List.nodup_append.mp o5
  exact ⟨⟨(fun x hx => by simp at hx), List.nodup_nil⟩, ⟨fun x hx => ⟨List.mem_append_right _ hx, Or.inr (fun hm => n3 x hm x hx rfl)⟩, n2⟩, ⟨(fun x hx => by simp at hx), List.nodup_nil⟩, fun x hx => List.mem_append_left _ hx, o7, o8⟩
theorem z_OK_B (hO : z_OK h s hl ll hk up) : ∀ l : List Nat, l.Nodup → (∀ x ∈ l, x ∈ hl ++ ll) → l.length ≤ (hl ++ ll).length := fun l h1 h2 => z_len l _ h1 h2
/-- a copying keeps it, if what stays leads to what stays -/
theorem z_OK_copy (hO : z_OK h s hl ll hk up) (hσ : σ = z_copy (z_rp h) up (q_I h s 5) hl ll hk (q_I h) (q_I h s 11)) (hc : z_Cp h h' s hk (fun x => x ∈ hl ++ ll) hl σ) (hcl : (∀ x ∈ σ.1 ++ σ.2.1, ∀ y, some y ∈ z_rp h x → y ∈ σ.1 ++ σ.2.1) ∧ ∀ x, some x ∈ hk → x ∈ σ.1 ++ σ.2.1) : z_OK h' s σ.1 σ.2.1 hk up := by
  obtain ⟨hI, hw⟩ := z_Iv_copy (rp := z_rp h) (prom := q_I h s 5) (hk := hk) (z_OK_Iv hO (q := q_I h s 11)) hO.2.2.2.2.2.1.2
  rw [← hσ] at hI hw
  obtain ⟨o1, o2, o3, o4, o5, o6, o7, o8, o9a, o9b, o9c⟩ := hO
  obtain ⟨c1, c2, c3, c4, c5, c6⟩ := hc
  obtain ⟨⟨i1a, i1b⟩, ⟨i2a, i2b⟩, ⟨i3a, i3b⟩, i4, i5, i6⟩ := hI
  have sub : ∀ x, x ∈ σ.1 ++ σ.2.1 → x ∈ hl ++ ll := fun x hx => by
    rcases List.mem_append.mp hx with hx | hx
    · exact i4 x (i3a x (i1a x hx))
    · exact (i2a x hx).1
  have s2 := o1.1.2
  have hrp := fun x hx => z_rp_ch (U := fun x => x ∈ hl ++ ll) o1.2.1 o3 c1 o2 (sub x hx)
  have hsub4 := c5.2.2.2.2 4 (by decide) (by decide) (by decide) (by decide)
  refine ⟨c3, fun x hx => ?_, fun hm => o3 (sub s hm), hcl.2, List.nodup_append.mpr ⟨i1b, i2b, fun x hx y hy e => hw x hx (by rw [e]; exact hy)⟩, ⟨hsub4.trans o6.1, o6.2⟩, fun x hx => ?_, fun x hx => ?_, fun x y hx hy e => ?_, fun x hx k hk3 e => ?_, fun k hk2 e => ?_⟩
  · obtain ⟨w1, w2, w3⟩ := c2 x (sub x hx)
    obtain ⟨r1, r2, r3, r4⟩ := hrp x hx
    refine ⟨w1, w2, fun i y hi hy => hcl.1 x hx y ?_⟩
    rw [← r4]
    exact List.mem_map.mpr ⟨i, List.mem_range.mpr hi, hy⟩
  · rw [c4 x (i2a x hx).1 2 (by decide), c4 x (i2a x hx).1 0 (by decide)]
    exact i5 x hx
  · rw [c4 x (sub x hx) 0 (by decide)]
    exact i6 x (sub x hx)
  · rw [(hrp x hx).1, (hrp y hy).1] at e
    exact o9a x y (sub x hx) (sub y hy) e
  · rw [(hrp x hx).1] at e
    rcases (c1.2 s s2).2.2.2.2.2 rfl k with e2 | ⟨b, e2, hb⟩
    · rw [e2] at e
      exact o9b x (sub x hx) k hk3 e
    · rw [e2] at e
      have h1 := (o2 x (sub x hx)).2.1.2.1.2
      have h2 : b = z_ra h x := Option.some.inj e
      omega
  · rw [c6 2 (by decide)] at e
    rcases (c1.2 s s2).2.2.2.2.2 rfl k with e2 | ⟨b, e2, hb⟩
    · rw [e2] at e
      exact o9c k hk2 e
    · obtain ⟨c, d1, d2⟩ := o1.2.2.2.2
      rw [e2, d1] at e
      have h1 := d2.1.2
      have h2 : b = c := Option.some.inj e
      omega
end ZOK
