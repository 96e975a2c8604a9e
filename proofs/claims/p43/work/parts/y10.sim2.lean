/-! CONTRACTS of the law's barn, two: what is reached, what is useless, ropes -/
/-- a bale's row of ropes -/
def z_ra (h : q_H) (x : Nat) : Nat := (q_R h x 4).getD 0
def z_rl (h : q_H) (x : Nat) : Nat := (q_sh h (z_ra h x)).2.2
def z_rp (h : q_H) (x : Nat) : List (Option Nat) := (List.range (z_rl h x)).map (q_R h (z_ra h x))
/-- the bales that there are: each has its ropes, which lead to such ones -/
def z_Wf (h : q_H) (U : Nat → Prop) : Prop := ∀ x, U x → z_Bal h x ∧ (q_R h x 4 = some (z_ra h x) ∧ (492 ≤ z_ra h x ∧ z_ra h x < q_nx h) ∧ q_sh h (z_ra h x) = (3, 6, z_rl h x) ∧ z_rl h x ≤ 3) ∧ ∀ i y, i < z_rl h x → q_R h (z_ra h x) i = some y → U y
theorem z_ra_ext {h h' : q_H} {x : Nat} (e : z_ext h h') (hx : x < q_nx h) : z_ra h' x = z_ra h x := by
  unfold z_ra
  rw [(e.2 x hx).2.2.1]
theorem z_rl_ext {h h' : q_H} {U : Nat → Prop} {x : Nat} (e : z_ext h h') (hW : z_Wf h U) (hx : U x) : z_rl h' x = z_rl h x := by
  obtain ⟨⟨b1, b2⟩, ⟨r1, r2, r3, r4⟩, -⟩ := hW x hx
  unfold z_rl
  rw [z_ra_ext e b1.2, (e.2 _ r2.2).1]
theorem z_rp_ext {h h' : q_H} {U : Nat → Prop} {x : Nat} (e : z_ext h h') (hW : z_Wf h U) (hx : U x) : z_rp h' x = z_rp h x := by
  obtain ⟨⟨b1, b2⟩, ⟨r1, r2, r3, r4⟩, -⟩ := hW x hx
  unfold z_rp
  rw [z_rl_ext e hW hx, z_ra_ext e b1.2, (e.2 _ r2.2).2.2.1]
theorem z_Wf_ext {h h' : q_H} {U : Nat → Prop} (e : z_ext h h') (hW : z_Wf h U) : z_Wf h' U := by
  intro x hx
  obtain ⟨b, ⟨r1, r2, r3, r4⟩, r5⟩ := id (hW x hx)
  refine ⟨z_Bal_ext e b, ?_, ?_⟩
  · rw [z_rl_ext e hW hx, z_ra_ext e b.1.2, (e.2 _ b.1.2).2.2.1, (e.2 _ r2.2).1]
    exact ⟨r1, ⟨r2.1, Nat.lt_of_lt_of_le r2.2 e.1⟩, r3, r4⟩
  · rw [z_rl_ext e hW hx, z_ra_ext e b.1.2, (e.2 _ r2.2).2.2.1]
    exact r5
def z_add (l : List Nat) : Option Nat → List Nat
  | none => l
  | some x => if x ∈ l then l else l ++ [x]
def z_adds (l : List Nat) (os : List (Option Nat)) : List Nat := os.foldl z_add l
/-- all that is reached, as it is come to -/
def z_bfs (rp : Nat → List (Option Nat)) : Nat → Nat → List Nat → List Nat
  | 0, _, l => l
  | n + 1, k, l => match l[k]? with
    | none => l
    | some x => z_bfs rp n (k + 1) (z_adds l (rp x))
theorem z_adds_take {l : List Nat} {os : List (Option Nat)} {i : Nat} {o : Option Nat} (ho : os[i]? = some o) : z_adds l (os.take (i + 1)) = z_add (z_adds l (os.take i)) o := by
  unfold z_adds
  rw [List.take_succ, ho, List.foldl_append]
  rfl
section ZSIM2
variable {g : q_G} {d mc ms : Nat} {h : q_H} {s : Nat} {hl ll : List Nat} {hk : List (Option Nat)} {U : Nat → Prop} {B : Nat}
theorem z_add_U {l : List Nat} {o : Option Nat} (hn : l.Nodup) (hl : ∀ x ∈ l, U x) (ho : ∀ x, o = some x → U x) : (z_add l o).Nodup ∧ ∀ x ∈ z_add l o, U x := by
  cases o with
  | none => exact ⟨hn, hl⟩
  | some x =>
    show (if x ∈ l then l else l ++ [x]).Nodup ∧ ∀ y ∈ (if x ∈ l then l else l ++ [x]), U y
    by_cases hx : x ∈ l
    · rw [if_pos hx]; exact ⟨hn, hl⟩
    · rw [if_neg hx]
      refine ⟨List.nodup_append.mpr ⟨hn, by simp, fun a ha b hb e => ?_⟩, fun y hy => ?_⟩
      · rw [List.mem_singleton.mp hb] at e; rw [e] at ha; exact hx ha
      · rcases List.mem_append.mp hy with hy | hy
        · exact hl y hy
        · rw [List.mem_singleton.mp hy]; exact ho x rfl
theorem z_adds_U {os : List (Option Nat)} : ∀ {l : List Nat}, l.Nodup → (∀ x ∈ l, U x) → (∀ x, some x ∈ os → U x) → (z_adds l os).Nodup ∧ ∀ x ∈ z_adds l os, U x := by
  induction os with
  | nil => intro l h1 h2 _; exact ⟨h1, h2⟩
  | cons o t ih =>
    intro l h1 h2 h3
    obtain ⟨a1, a2⟩ := z_add_U h1 h2 (fun x hx => h3 x (by rw [← hx]; exact List.mem_cons_self))
    exact ih a1 a2 (fun x hx => h3 x (List.mem_cons_of_mem _ hx))
/-- one more is come to, or not -/
theorem z_stepC {h1 : q_H} {c : Nat} {l : List Nat} {o : Option Nat} (F : Nat → q_H → Nat → Nat → Prop) (hm : ∀ c h k n n', n ≤ n' → F c h k n' → F c h k n) (hd : 2 ≤ d) (hd2 : d < 2048)
    (hc : z_Ar h1 c l) (hl : ∀ x ∈ l, z_Bal h1 x) (ho : ∀ x, o = some x → z_Bal h1 x) (hlB : (z_add l o).length ≤ B) (hBs : q_s16 B) (hmc : B + 1 ≤ mc) (hms : B * B ≤ ms)
    (hF : ∀ c' h', z_ext h1 h' → z_Ar h' c' (z_add l o) → F c' h' (1 + (z_add l o).length) ((z_add l o).length * B)) :
    ((∀ b3, o = some b3 → q_cI g m_X14_isIn [] d mc ms [.ref c, .ref b3] h1 (1 + l.length) (l.length * B) True (fun k5 n6 x7 h4 => ((¬ x7 = 0 → F c h4 k5 n6) ∧ (x7 = 0 → q_cR g m_X14_with [] d mc ms [.ref c, .ref b3] h4 k5 n6 True (fun k9 n10 b11 h8 => F b11 h8 k9 n10))))) ∧ (o = none → F c h1 (1 + l.length) (l.length * B))) := by
  refine ⟨fun x hx => ?_, fun hx => ?_⟩
  · subst hx
    have hxB := ho x rfl
    have hle : l.length ≤ (z_add l (some x)).length := by
      show l.length ≤ (if x ∈ l then l else l ++ [x]).length
      split <;> simp
    have hlB1 : l.length ≤ B := Nat.le_trans hle hlB
    have hlB2 : l.length * B ≤ B * B := Nat.mul_le_mul_right _ hlB1
    refine q_cI_of (fun y h' => y = (if x ∈ l then 1 else 0) ∧ h' = h1) (z_isIn (d := d - 1) (by omega) (by omega) hc (fun y hy => z_4 (hl y hy).1.1) (z_4 hxB.1.1)) (by omega) (q_lcle (by omega) (by omega)) (by omega) (by omega) trivial (fun y h' hp => ?_)
    obtain ⟨p1, p2⟩ := hp
    subst p2
    rw [Nat.add_zero, Nat.add_zero]
    by_cases hxl : x ∈ l
    · rw [if_pos hxl] at p1
      subst p1
      refine ⟨fun _ => ?_, fun h0 => absurd h0 (by decide)⟩
      have := hF c h' (z_ext_refl _) (by show z_Ar h' c (if x ∈ l then l else l ++ [x]); rw [if_pos hxl]; exact hc)
      rwa [show z_add l (some x) = l from if_pos hxl] at this
    · rw [if_neg hxl] at p1
      subst p1
      have hla : (z_add l (some x)) = l ++ [x] := if_neg hxl
      rw [hla, List.length_append] at hlB
      have hlB : l.length + 1 ≤ B := hlB
      have h5 : l.length * B + (l.length + 1) ≤ (l.length + 1) * B := by rw [Nat.succ_mul]; omega
      have h6 : (l.length + 1) * B ≤ B * B := Nat.mul_le_mul_right _ hlB
      refine ⟨fun h0 => absurd rfl h0, fun _ => ?_⟩
      refine q_cR_of (fun y h2 => y = q_nx h' ∧ q_nx h2 = q_nx h' + 1 ∧ z_ext h' h2 ∧ z_Ar h2 y (l ++ [x])) (z_with (d := d - 1) (by omega) (by omega) hc hl hxB (Nat.lt_of_le_of_lt hlB hBs)) (by omega) (q_lcle (by omega) (by omega)) (by omega) (by omega) trivial (fun y h2 hp => ?_)
      obtain ⟨p1, p2, p3, p4⟩ := hp
      refine hm _ _ _ _ _ h5 ?_
      have := hF y h2 p3 (by rw [hla]; exact p4)
      rw [hla, List.length_append] at this
      rw [Nat.add_assoc]
      exact this
  · subst hx
    exact hF c h1 (z_ext_refl _) hc
theorem z_reachedC (hd : 2 ≤ d) (hd2 : d < 2048) (hS : z_Sim h s hl ll hk) (hW : z_Wf h U) (hhk : ∀ x, some x ∈ hk → U x) (hB : ∀ l : List Nat, l.Nodup → (∀ x ∈ l, U x) → l.length ≤ B) (hBs : q_s16 B) :
    q_Ct g m_X14_reached d (B + 1) (B * B) [] [.ref s] h (fun o h' => ∃ c, o = .inl (some (.ref c)) ∧ z_ext h h' ∧ z_Ar h' c (z_bfs (z_rp h) (B + 1) 0 (z_adds [] hk))) := by
  obtain ⟨⟨s1, s2⟩, s3, -, -, ⟨a, a1, a2⟩⟩ := id hS
  refine q_CtK ok_X14_reached (by omega) (Nat.le_of_ble_eq_true rfl) ?_ _ rfl rfl
  have key32 : ∀ n k (h1 : q_H) (c : Nat) (l : List Nat), k + n = B + 1 → z_ext h h1 → z_Ar h1 c l → l.Nodup → (∀ x ∈ l, U x) →
      q_K g m_X14_reached [] d (B + 1) (B * B) h [] (fun o h' => ∃ c, o = .inl (some (.ref c)) ∧ z_ext h h' ∧ z_Ar h' c (z_bfs (z_rp h) n k l)) (1 + l.length) (l.length * B) (32, [none, some (.ref c), some (.int (nI k)), none, none, none, none], [], h1) := by
    intro n
    induction n with
    | zero =>
      intro k h1 c l hk1 he hc hn hu
      obtain ⟨⟨c1, c2⟩, c3, c4, c5⟩ := id hc
      have hlB := hB l hn hu
      have : l.length * B ≤ B * B := Nat.mul_le_mul_right _ hlB
      exact w_X14_reached_32 (by omega) ⟨l.length, ⟨z_4 c1, c3⟩, fun _ => ⟨⟨by omega, this⟩, c, rfl, he, hc⟩, fun hn => absurd (nI_le (by omega) (Nat.lt_of_le_of_lt (show k ≤ B + 1 by omega) (by have : B < 65536 := hBs; omega))) hn⟩
    | succ n ih =>
      intro k h1 c l hk1 he hc hn hu
      obtain ⟨⟨c1, c2⟩, c3, c4, c5⟩ := id hc
      have hlB := hB l hn hu
      have hms : l.length * B ≤ B * B := Nat.mul_le_mul_right _ hlB
      have hB16 : B < 65536 := hBs
      by_cases hkl : k < l.length
      · have hy : l[k]? = some l[k] := List.getElem?_eq_getElem hkl
        have hUx := hu _ (List.getElem_mem hkl)
        obtain ⟨xb, ⟨r1, r2, r3, r4⟩, r5⟩ := z_Wf_ext he hW _ hUx
        have hrp : z_rp h1 l[k] = z_rp h l[k] := z_rp_ext he hW hUx
        have hra : z_ra h1 l[k] = z_ra h l[k] := z_ra_ext he (hW _ hUx).1.1.2
        have hrl : z_rl h1 l[k] = z_rl h l[k] := z_rl_ext he hW hUx
        have hrlen : (z_rp h l[k]).length = z_rl h l[k] := by unfold z_rp; rw [List.length_map, List.length_range]
        have hro : ∀ j, j < z_rl h l[k] → (z_rp h l[k])[j]? = some (q_R h (z_ra h l[k]) j) := by
          intro j hj
          unfold z_rp
          rw [List.getElem?_map, List.getElem?_range hj]; rfl
        have hrU : ∀ x, some x ∈ z_rp h l[k] → U x := by
          intro x hx
          unfold z_rp at hx
          obtain ⟨j, hj, hjx⟩ := List.mem_map.mp hx
          exact (hW _ hUx).2.2 j x (List.mem_range.mp hj) hjx
        have key46 : ∀ m j (h2 : q_H) (c' : Nat), j + m = z_rl h l[k] → z_ext h h2 → z_Ar h2 c' (z_adds l ((z_rp h l[k]).take j)) →
            q_K g m_X14_reached [] d (B + 1) (B * B) h [] (fun o h' => ∃ c, o = .inl (some (.ref c)) ∧ z_ext h h' ∧ z_Ar h' c (z_bfs (z_rp h) (n + 1) k l)) (1 + (z_adds l ((z_rp h l[k]).take j)).length) ((z_adds l ((z_rp h l[k]).take j)).length * B) (46, [none, some (.ref c'), some (.int (nI k)), some (.ref (z_ra h l[k])), some (.int (nI (z_rl h l[k]))), some (.int (nI j)), none], [], h2) := by
          intro m
          induction m with
          | zero =>
            intro j h2 c' hj he2 hc2
            obtain rfl : j = z_rl h l[k] := by omega
            rw [show (z_rp h l[k]).take (z_rl h l[k]) = z_rp h l[k] by rw [← hrlen, List.take_length]] at hc2 ⊢
            obtain ⟨n1, n2⟩ := z_adds_U hn hu hrU
            refine w_X14_reached_46 (by omega) ⟨fun _ => ?_, fun hn => absurd (Int32.le_refl _) hn⟩
            rw [nI_1]
            have := ih (k + 1) h2 c' _ (by omega) he2 hc2 n1 n2
            unfold z_bfs
            rw [hy]
            exact this
          | succ m ihm =>
            intro j h2 c' hj he2 hc2
            have hjl : j < z_rl h l[k] := by omega
            have hrU2 : ∀ x, some x ∈ (z_rp h l[k]).take j → U x := fun x hx => hrU x (List.mem_of_mem_take hx)
            obtain ⟨n1, n2⟩ := z_adds_U hn hu hrU2
            have ho : ∀ x, q_R h (z_ra h l[k]) j = some x → U x := fun x hx => (hW _ hUx).2.2 j x hjl hx
            obtain ⟨n3, n4⟩ := z_add_U n1 n2 ho
            obtain ⟨xb2, ⟨t1, t2, t3, t4⟩, -⟩ := z_Wf_ext he2 hW _ hUx
            have hra2 : z_ra h2 l[k] = z_ra h l[k] := z_ra_ext he2 (hW _ hUx).1.1.2
            have hrl2 : z_rl h2 l[k] = z_rl h l[k] := z_rl_ext he2 hW hUx
            rw [hra2, hrl2] at t3
            rw [hra2] at t2
            rw [hrl2] at t4
            have hR2 : q_R h2 (z_ra h l[k]) = q_R h (z_ra h l[k]) := (he2.2 _ (hW _ hUx).2.1.2.1.2).2.2.1
            refine w_X14_reached_46 (by omega) ⟨fun hle => absurd hle (nI_ge hjl (by omega)), fun _ => ⟨j, z_rl h l[k], rfl, ⟨z_4 t2.1, t3, hjl, by show z_rl h l[k] < 65536; omega⟩, ?_⟩⟩
            rw [hR2]
            refine z_stepC (B := B) (F := fun c h k n => q_K g m_X14_reached [] d (B + 1) (B * B) _ [] _ k n (46, [none, some (.ref c), _, _, _, some (.int (nI j + 1)), none], [], h)) (fun c h k n n' hnn hk => k_Jwd (Nat.le_refl _) hnn hk) hd hd2 hc2 (fun x hx => z_Bal_ext he2 (hW x (n2 x hx)).1) (fun x hx => z_Bal_ext he2 (hW x (ho x hx)).1) (hB _ n3 n4) hBs (Nat.le_refl _) (Nat.le_refl _) (fun c3 h3 he3 hc3 => ?_)
            have := ihm (j + 1) h3 c3 (by omega) (z_ext_trans he2 he3) (by rw [z_adds_take (hro j hjl)]; exact hc3)
            rw [z_adds_take (hro j hjl)] at this
            rw [nI_1]
            exact this
        refine w_X14_reached_32 (by omega) ⟨l.length, ⟨z_4 c1, c3⟩, fun hle => absurd hle (nI_ge hkl (by omega)), fun _ => ⟨k, l.length, rfl, ⟨z_4 c1, c3, hkl, c4⟩, l[k], c5 k _ hy, ⟨z_4 xb.1.1, xb.2⟩, z_ra h1 l[k], r1, z_rl h1 l[k], ⟨z_4 r2.1, r3⟩, ?_⟩⟩
        rw [hra, hrl]
        exact key46 (z_rl h l[k]) 0 h1 c (by omega) he hc
      · have hnone : l[k]? = none := List.getElem?_eq_none (by omega)
        refine w_X14_reached_32 (by omega) ⟨l.length, ⟨z_4 c1, c3⟩, fun _ => ⟨⟨by omega, hms⟩, c, rfl, he, ?_⟩, fun hn => absurd (nI_le (by omega) (by omega)) hn⟩
        unfold z_bfs
        rw [hnone]
        exact hc
  have key11 : ∀ n i (h1 : q_H) (c : Nat), i + n = hk.length → z_ext h h1 → z_Ar h1 c (z_adds [] (hk.take i)) →
      q_K g m_X14_reached [] d (B + 1) (B * B) h [] (fun o h' => ∃ c, o = .inl (some (.ref c)) ∧ z_ext h h' ∧ z_Ar h' c (z_bfs (z_rp h) (B + 1) 0 (z_adds [] hk))) (1 + (z_adds [] (hk.take i)).length) ((z_adds [] (hk.take i)).length * B) (11, [none, some (.ref c), some (.ref a), some (.int (nI hk.length)), some (.int (nI i)), none, none], [], h1) := by
    intro n
    induction n with
    | zero =>
      intro i h1 c hi he hc
      obtain rfl : i = hk.length := by omega
      rw [List.take_length] at hc ⊢
      obtain ⟨n1, n2⟩ := z_adds_U (l := []) (os := hk) (U := U) (by simp) (by simp) hhk
      exact w_X14_reached_11 (by omega) ⟨fun _ => key32 (B + 1) 0 h1 c _ (by omega) he hc n1 n2, fun hn => absurd (Int32.le_refl _) hn⟩
    | succ n ih =>
      intro i h1 c hi he hc
      have hil : i < hk.length := by omega
      have hy : hk[i]? = some hk[i] := List.getElem?_eq_getElem hil
      obtain ⟨⟨b1, b2⟩, b3, b4, b5⟩ := z_Ao_ext he a2
      have hhk2 : ∀ x, some x ∈ hk.take i → U x := fun x hx => hhk x (List.mem_of_mem_take hx)
      obtain ⟨n1, n2⟩ := z_adds_U (l := []) (U := U) (by simp) (by simp) hhk2
      have ho : ∀ x, hk[i] = some x → U x := fun x hx => hhk x (by rw [← hx]; exact List.getElem_mem hil)
      obtain ⟨n3, n4⟩ := z_add_U n1 n2 ho
      refine w_X14_reached_11 (by omega) ⟨fun hle => absurd hle (nI_ge hil (z_2 b4)), fun _ => ⟨i, hk.length, rfl, ⟨z_4 b1, b3, hil, b4⟩, ?_⟩⟩
      rw [b5 i _ hy]
      refine z_stepC (B := B) (F := fun c h k n => q_K g m_X14_reached [] d (B + 1) (B * B) _ [] _ k n (11, [none, some (.ref c), some (.ref a), some (.int (nI hk.length)), some (.int (nI i + 1)), none, none], [], h)) (fun c h k n n' hnn hk => k_Jwd (Nat.le_refl _) hnn hk) hd hd2 hc (fun x hx => z_Bal_ext he (hW x (n2 x hx)).1) (fun x hx => z_Bal_ext he (hW x (ho x hx)).1) (hB _ n3 n4) hBs (Nat.le_refl _) (Nat.le_refl _) (fun c3 h3 he3 hc3 => ?_)
      have := ih (i + 1) h3 c3 (by omega) (z_ext_trans he he3) (by rw [z_adds_take hy]; exact hc3)
      rw [z_adds_take hy] at this
      rw [nI_1]
      exact this
  obtain ⟨⟨b1, b2⟩, b3, b4, b5⟩ := id a2
  have hn0 := z_ext_new h (3, 6, 0)
  obtain ⟨e1, e2, e3, -, -⟩ := hn0.2 s s2
  obtain ⟨f1, f2, f3, -, -⟩ := hn0.2 a b2
  refine w_X14_reached_0 (by omega) ⟨0, rfl, by decide, ⟨by omega, by omega⟩, ⟨z_4 s1, e1.trans s3⟩, a, by rw [e3]; exact a1, hk.length, ⟨z_4 b1, f1.trans b3⟩, ?_⟩
  have := key11 hk.length 0 (q_new h (3, 6, 0)) (q_nx h) (by omega) hn0 ⟨⟨by omega, Nat.lt_succ_self _⟩, z_sh_new _ _, (by show (0 : Nat) < 65536; decide), fun i x hx => by cases hx⟩
  rw [show (z_adds [] (hk.take 0)).length * B = 0 from Nat.zero_mul B] at this
  exact this
theorem z_uselessC (hd : 3 ≤ d) (hd2 : d < 2048) (hS : z_Sim h s hl ll hk) (hW : z_Wf h U) (hhk : ∀ x, some x ∈ hk → U x) (hB : ∀ l : List Nat, l.Nodup → (∀ x ∈ l, U x) → l.length ≤ B) (hBs : q_s16 B) :
    q_Ct g m_X14_useless d (B + 1) (B * B) [] [.ref s] h (fun o h' => ∃ y, o = .inl (some (.int y)) ∧ y = nI hl.length + nI ll.length - nI (z_bfs (z_rp h) (B + 1) 0 (z_adds [] hk)).length ∧ z_ext h h') := by
  obtain ⟨⟨s1, s2⟩, s3, ⟨a, a1, a2⟩, ⟨b, b1, b2⟩, -⟩ := id hS
  refine q_CtK ok_X14_useless (by omega) (Nat.le_of_ble_eq_true rfl) ?_ _ rfl rfl
  refine w_X14_useless_0 (by omega) ⟨⟨z_4 s1, s3⟩, a, a1, hl.length, ⟨z_4 a2.1.1, a2.2.1⟩, ⟨z_4 s1, s3⟩, b, b1, ll.length, ⟨z_4 b2.1.1, b2.2.1⟩, ⟨z_4 s1, s3⟩, ?_⟩
  refine q_cR_of (fun c h' => z_ext h h' ∧ z_Ar h' c (z_bfs (z_rp h) (B + 1) 0 (z_adds [] hk))) (z_reachedC (d := d - 1) (by omega) (by omega) hS hW hhk hB hBs) (by omega) (q_lcle (by omega) (by omega)) (by omega) (by omega) trivial (fun c h1 hp => ?_)
  exact ⟨_, ⟨z_4 hp.2.1.1, hp.2.2.1⟩, rfl, ⟨by omega, by omega⟩, _, rfl, rfl, hp.1⟩
end ZSIM2
