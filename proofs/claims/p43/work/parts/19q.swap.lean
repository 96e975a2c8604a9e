/-! rows that change places; a new row, and away with it -/
def q_sg (r1 r2 a : Nat) : Nat := if a = r1 then r2 else if a = r2 then r1 else a
theorem q_sg_n {r1 r2 a : Nat} (h1 : a ≠ r1) (h2 : a ≠ r2) : q_sg r1 r2 a = a := by unfold q_sg; rw [if_neg h1, if_neg h2]
theorem q_sg_cases {r1 r2 : Nat} (h : r1 ≠ r2) (a : Nat) : (a = r1 ∧ q_sg r1 r2 a = r2) ∨ (a = r2 ∧ q_sg r1 r2 a = r1) ∨ (a ≠ r1 ∧ a ≠ r2 ∧ q_sg r1 r2 a = a) := by
  unfold q_sg
  by_cases h1 : a = r1
  · subst h1; exact Or.inl ⟨rfl, if_pos rfl⟩
  · by_cases h2 : a = r2
    · subst h2; exact Or.inr (Or.inl ⟨rfl, by rw [if_neg h1, if_pos rfl]⟩)
    · exact Or.inr (Or.inr ⟨h1, h2, by rw [if_neg h1, if_neg h2]⟩)
theorem q_sg_sg {r1 r2 a : Nat} (h : r1 ≠ r2) : q_sg r1 r2 (q_sg r1 r2 a) = a := by
  rcases q_sg_cases h a with ⟨h1, e⟩ | ⟨h1, e⟩ | ⟨h1, h2, e⟩ <;> rw [e]
  · rw [h1]; unfold q_sg; rw [if_neg (Ne.symm h), if_pos rfl]
  · rw [h1]; unfold q_sg; rw [if_pos rfl]
  · exact e
theorem q_hn0_J {g : q_G} {M : q_M} {d mc ms : Nat} {h0 : q_H} {mv : List Nat} {Q : (Option Value ⊕ String) → q_H → Prop} {k n : Nat} {c : q_C} (h9 : q_nx h0 ≤ q_nx c.2.2.2 → q_J g M d mc ms h0 mv Q k n c) : q_J g M d mc ms h0 mv Q k n c := by
  intro p e s m args below meth cd D cA ρ0 ρ A H locs rls en hen hB hS
  exact h9 hS.2.2.2.2.2.2.2.2.2.2.2.2 p e s m args below meth cd D cA ρ0 ρ A H locs rls en hen hB hS
def q_R0 (a j : Nat) : Option Nat := q_RX 499 (fun _ _ => none) a j
theorem q_R0_of {t r m N : Nat} {ext : Nat → q_Sh} {rx : Nat → Nat → Option Nat} {L : Nat → Nat → Int64} {a : Nat} (h : a < 492) : q_aR (t, r, m, 499, N, ext, rx, L) a = q_R0 a := by
  funext j
  show q_RX 499 rx a j = q_RX 499 (fun _ _ => none) a j
  unfold q_RX
  rw [Nat.blt_eq.mpr h]
  rfl
def q_s3c : Bool := (List.range 92).all fun k => match q_shC (400 + k) with
  | (3, t, n) => (Nat.beq k 3 || Nat.beq k 27) && (Nat.beq t 4 && Nat.beq n 20)
  | _ => true
theorem q_s3c_ok : q_s3c = true := by decide +kernel
theorem q_s3 {X : q_Am} {a t n : Nat} (h1 : 400 ≤ a) (h2 : a < 492) (h : q_aS X a = (3, t, n)) : (a = 403 ∨ a = 427) ∧ t = 4 ∧ n = 20 := by
  have hk := q_s3c_ok
  unfold q_s3c at hk
  rw [List.all_eq_true] at hk
  have hk := hk (a - 400) (List.mem_range.mpr (by omega))
  rw [show 400 + (a - 400) = a by omega] at hk
  have hs : q_shC a = (3, t, n) := by
    have h : q_shX X.1 X.2.1 X.2.2.1 X.2.2.2.2.2.1 a = (3, t, n) := h
    unfold q_shX at h
    by_cases e1 : a = 473
    · subst e1; cases h
    · by_cases e2 : a = 450
      · subst e2; cases h
      · rw [q_beqN e1, q_beqN e2, Nat.blt_eq.mpr h2] at h
        exact h
  rw [hs] at hk
  simp only [Bool.and_eq_true, Bool.or_eq_true] at hk
  obtain ⟨hk1, hk2, hk3⟩ := hk
  refine ⟨?_, Nat.eq_of_beq_eq_true hk2, Nat.eq_of_beq_eq_true hk3⟩
  rcases hk1 with hk1 | hk1
  · have := Nat.eq_of_beq_eq_true hk1; exact Or.inl (by omega)
  · have := Nat.eq_of_beq_eq_true hk1; exact Or.inr (by omega)
theorem q_R3 {a j : Nat} (ha : a = 403 ∨ a = 427) (hj : 20 ≤ j) : q_R0 a j = none := by
  obtain ⟨z, rfl⟩ : ∃ z, j = z + 20 := ⟨j - 20, by omega⟩
  rcases ha with rfl | rfl <;> rfl
/-- references that stay -/
def q_fxc (σ : Nat → Nat) (B : Nat) : Bool := (List.range 92).all fun k => Nat.beq (400 + k) B || (List.range 24).all fun j => match q_R0 (400 + k) j with
  | some b => Nat.beq (σ b) b
  | none => true
theorem q_fx_of {σ : Nat → Nat} {B a j : Nat} (hc : q_fxc σ B = true) (h1 : 400 ≤ a) (h2 : a < 492) (ha : a ≠ B) (hj : j < 24) : q_R0 a j = (q_R0 a j).map σ := by
  unfold q_fxc at hc
  rw [List.all_eq_true] at hc
  have hc := hc (a - 400) (List.mem_range.mpr (by omega))
  rw [show 400 + (a - 400) = a by omega, q_beqN ha, Bool.false_or, List.all_eq_true] at hc
  have hc := hc j (List.mem_range.mpr hj)
  cases hq : q_R0 a j with
  | none => rfl
  | some b =>
    rw [hq] at hc
    show some b = some (σ b)
    rw [Nat.eq_of_beq_eq_true hc]
def q_nf_c : Bool := (List.range 20).all fun ci => Nat.ble (q_nf ci) 23
theorem q_nf_le (ci : Nat) : q_nf ci < 24 := by
  by_cases h : ci < 20
  · have hk : q_nf_c = true := by decide +kernel
    unfold q_nf_c at hk
    rw [List.all_eq_true] at hk
    have := Nat.le_of_ble_eq_true (hk ci (List.mem_range.mpr h))
    omega
  · obtain ⟨z, rfl⟩ : ∃ z, ci = z + 20 := ⟨ci - 20, by omega⟩
    exact (by decide : 0 < 24)
/-- an id that stays, and whose references stay -/
theorem q_cmp_self {X : q_Am} {σ : Nat → Nat} {h h' : q_H} {a : Nat} (h1 : 400 ≤ a) (h2 : a < 492) (e : σ a = a) (hI : q_I h' a = q_I h (σ a)) (hE : q_E h' a = q_E h a) (hL : q_L h' a = q_L h a) (hX : q_sh h' a = q_aS X a) (hsh : q_sh h' a = q_sh h a) (hR0 : q_R h' a = q_R0 a) (hR3 : ∀ j, a = 403 ∨ a = 427 → q_R h a j = (q_R0 a j).map σ) (hR : ∀ j, j < 24 → q_R h a j = (q_R0 a j).map σ) : q_cmp σ h h' a := by
  unfold q_cmp
  generalize hs : q_sh h' a = s at hsh hX ⊢
  obtain ⟨t, c, n⟩ := s
  rw [e]
  rw [e] at hI
  match t with
  | 0 => exact ⟨⟨hI, hE⟩, n, hsh.symm, fun j hj _ => ⟨rfl, fun _ => by rw [hR0]; exact hR j (Nat.lt_trans hj (q_nf_le c))⟩⟩
  | 1 => exact ⟨hsh.symm, hI⟩
  | 2 => exact ⟨hsh.symm, hL⟩
  | 3 =>
    obtain ⟨h3, -, -⟩ := q_s3 h1 h2 hX.symm
    exact ⟨hsh.symm, fun j => by rw [hR0]; exact hR3 j h3⟩
  | t + 4 => exact ⟨hsh.symm, hE⟩
theorem q_kswap457 {g : q_G} {d mc ms : Nat} {h0 : q_H} {Q : (Option Value ⊕ String) → q_H → Prop} {k n t r m : Nat} {ext : Nat → q_Sh} {rx : Nat → Nat → Option Nat} {L : Nat → Nat → Int64} {I : Nat → Nat → Int32} {E : Nat → Nat → Option Nat} {lI lI' : List (Nat × (Nat → Int32))} {lE : List (Nat × (Nat → Option Nat))} {x2 : Int32} (hI : q_ins 471 (q_ws I lI 472) (q_ins 472 (q_ws I lI 471) lI) = lI')
    (hJ : q_J g m_X2_copyHalf d mc ms h0 [471, 472] Q k n (q_kc (t, r, m, 499, 492, ext, rx, L) I E 13 [some (.ref 457), some (.ref 472), some (.int x2), none, none, none] [] lI' lE)) : q_J g m_X2_copyHalf d mc ms h0 [471, 472] Q k n (q_kc (t, r, m, 499, 492, ext, rx, L) I E 6 [some (.ref 457), some (.ref 471), some (.int x2), none, none, none] [] lI lE) := by
  subst hI
  refine q_go 3 (c' := (9, [some (.ref 457), some (.ref 471), some (.int x2), none, none, none], [.ref 472, .ref 457], q_hp (t, r, m, 499, 492, ext, rx, L) (q_ws I lI) (q_ws E lE))) ok_X2_copyHalf rfl ?_
  refine q_o_putR (h := q_hp (t, r, m, 499, 492, ext, rx, L) (q_ws I lI) (q_ws E lE)) (v := 0) ok_X2_copyHalf rfl (by decide) rfl (by decide) rfl ?_
  refine q_go 2 (c' := (12, [some (.ref 457), some (.ref 471), some (.int x2), none, none, none], [.ref 471, .ref 457], ((492, q_aS (t, r, m, 499, 492, ext, rx, L), q_ws I lI, q_u2 (q_aR (t, r, m, 499, 492, ext, rx, L)) 457 4 (some 472), q_ws E lE, L) : q_H))) ok_X2_copyHalf rfl ?_
  refine q_o_putR (h := (492, q_aS (t, r, m, 499, 492, ext, rx, L), q_ws I lI, q_u2 (q_aR (t, r, m, 499, 492, ext, rx, L)) 457 4 (some 472), q_ws E lE, L)) (v := 0) ok_X2_copyHalf rfl (by decide) rfl (by decide) rfl ?_
  refine q_hn0_J (fun hn0 => ?_)
  refine q_vw (q_sg 471 472) (h' := q_hp (t, r, m, 499, 492, ext, rx, L) (q_ws I (q_ins 471 (q_ws I lI 472) (q_ins 472 (q_ws I lI 471) lI))) (q_ws E lE)) (ls' := [some (.ref 457), some (.ref 472), some (.int x2), none, none, none]) (st' := []) (Nat.le_refl _) (Nat.le_of_ble_eq_true rfl) hn0 (fun a ha => q_sg_n (by omega) (by omega)) ?_ ?_ ?_ ?_ rfl rfl (fun a ha => absurd ha List.not_mem_nil) ?_ ?_ hJ
  · intro a h1 h2
    have h2 : a < 492 := h2
    rcases q_sg_cases (r1 := 471) (r2 := 472) (by decide) a with ⟨rfl, e⟩ | ⟨rfl, e⟩ | ⟨h3, h4, e⟩ <;> rw [e]
    · exact ⟨Nat.le_of_ble_eq_true rfl, Nat.le_of_ble_eq_true rfl⟩
    · exact ⟨Nat.le_of_ble_eq_true rfl, Nat.le_of_ble_eq_true rfl⟩
    · exact ⟨h1, h2⟩
  · intro a b _ _ _ _ hab
    have := congrArg (q_sg 471 472) hab
    rwa [q_sg_sg (by decide), q_sg_sg (by decide)] at this
  · intro a h1 h2
    have h2 : a < 492 := h2
    have hrow : q_ws I (q_ins 471 (q_ws I lI 472) (q_ins 472 (q_ws I lI 471) lI)) a = q_ws I lI (q_sg 471 472 a) := by
      rw [q_ws_ins, q_ws_ins]
      rcases q_sg_cases (r1 := 471) (r2 := 472) (by decide) a with ⟨rfl, e⟩ | ⟨rfl, e⟩ | ⟨h3, h4, e⟩ <;> rw [e]
      · rw [q_ur_s]
      · rw [q_ur_n _ _ _ (by decide), q_ur_s]
      · rw [q_ur_n _ _ _ h3, q_ur_n _ _ _ h4]
    rcases q_sg_cases (r1 := 471) (r2 := 472) (by decide) a with ⟨rfl, e⟩ | ⟨rfl, e⟩ | ⟨h3, h4, e⟩
    · exact ⟨by rw [e]; rfl, hrow⟩
    · exact ⟨by rw [e]; rfl, hrow⟩
    · refine q_cmp_self (X := (t, r, m, 499, 492, ext, rx, L)) h1 h2 e hrow rfl rfl rfl rfl (q_R0_of h2) (fun j hj => ?_) (fun j hj => ?_)
      · show q_u2 (q_u2 (q_aR (t, r, m, 499, 492, ext, rx, L)) 457 4 (some 472)) 457 5 (some 471) a j = _
        have ha : a ≠ 457 := by omega
        rw [q_u2_n _ _ _ _ _ _ ha, q_u2_n _ _ _ _ _ _ ha, q_R0_of h2]
        by_cases hj2 : j < 24
        · exact q_fx_of (σ := q_sg 471 472) (B := 457) (by decide +kernel) h1 h2 ha hj2
        · rw [q_R3 hj (by omega)]; rfl
      · show q_u2 (q_u2 (q_aR (t, r, m, 499, 492, ext, rx, L)) 457 4 (some 472)) 457 5 (some 471) a j = _
        by_cases ha : a = 457
        · subst ha
          match j, hj with
          | 0, _ | 1, _ | 2, _ | 3, _ | 4, _ | 5, _ | 6, _ => rfl
          | z + 7, _ => rfl
        · rw [q_u2_n _ _ _ _ _ _ ha, q_u2_n _ _ _ _ _ _ ha, q_R0_of h2]
          exact q_fx_of (σ := q_sg 471 472) (B := 457) (by decide +kernel) h1 h2 ha hj
  · intro hC
    refine ⟨fun a j b hb => ?_, hC.2.1, hC.2.2⟩
    by_cases ha : a = 457 ∧ (j = 4 ∨ j = 5)
    · obtain ⟨rfl, rfl | rfl⟩ := ha <;> (cases hb; show _ < 492; decide)
    · refine hC.1 a j b ?_
      show q_u2 (q_u2 (q_aR (t, r, m, 499, 492, ext, rx, L)) 457 4 (some 472)) 457 5 (some 471) a j = some b
      rw [q_u2_of, if_neg (fun h => ha ⟨h.1, Or.inr h.2⟩), q_u2_of, if_neg (fun h => ha ⟨h.1, Or.inl h.2⟩)]
      exact hb
  · intro i a ha
    match i, ha with
    | 0, ha => cases ha; show _ < 492; decide
    | 1, ha => cases ha; show _ < 492; decide
    | 2, ha => cases ha
    | 3, ha => cases ha
    | 4, ha => cases ha
    | 5, ha => cases ha
    | z + 6, ha => simp [q_nth] at ha
  · intro a ha hm
    refine q_sg_n (fun h => hm ?_) (fun h => hm ?_) <;> (subst h; simp)
theorem q_kswap473 {g : q_G} {d mc ms : Nat} {h0 : q_H} {Q : (Option Value ⊕ String) → q_H → Prop} {k n r m : Nat} {ext : Nat → q_Sh} {rx : Nat → Nat → Option Nat} {L : Nat → Nat → Int64} {I : Nat → Nat → Int32} {E : Nat → Nat → Option Nat} {lI lI' : List (Nat × (Nat → Int32))} {lE : List (Nat × (Nat → Option Nat))} {x2 : Int32} (hI : q_ins 487 (q_ws I lI 488) (q_ins 488 (q_ws I lI 487) lI) = lI')
    (hJ : q_J g m_X2_copyHalf d mc ms h0 [487, 488] Q k n (q_kc (0, r, m, 499, 492, ext, rx, L) I E 13 [some (.ref 473), some (.ref 488), some (.int x2), none, none, none] [] lI' lE)) : q_J g m_X2_copyHalf d mc ms h0 [487, 488] Q k n (q_kc (0, r, m, 499, 492, ext, rx, L) I E 6 [some (.ref 473), some (.ref 487), some (.int x2), none, none, none] [] lI lE) := by
  subst hI
  refine q_go 3 (c' := (9, [some (.ref 473), some (.ref 487), some (.int x2), none, none, none], [.ref 488, .ref 473], q_hp (0, r, m, 499, 492, ext, rx, L) (q_ws I lI) (q_ws E lE))) ok_X2_copyHalf rfl ?_
  refine q_o_putR (h := q_hp (0, r, m, 499, 492, ext, rx, L) (q_ws I lI) (q_ws E lE)) (v := 0) ok_X2_copyHalf rfl (by decide) rfl (by decide) rfl ?_
  refine q_go 2 (c' := (12, [some (.ref 473), some (.ref 487), some (.int x2), none, none, none], [.ref 487, .ref 473], ((492, q_aS (0, r, m, 499, 492, ext, rx, L), q_ws I lI, q_u2 (q_aR (0, r, m, 499, 492, ext, rx, L)) 473 4 (some 488), q_ws E lE, L) : q_H))) ok_X2_copyHalf rfl ?_
  refine q_o_putR (h := (492, q_aS (0, r, m, 499, 492, ext, rx, L), q_ws I lI, q_u2 (q_aR (0, r, m, 499, 492, ext, rx, L)) 473 4 (some 488), q_ws E lE, L)) (v := 0) ok_X2_copyHalf rfl (by decide) rfl (by decide) rfl ?_
  refine q_hn0_J (fun hn0 => ?_)
  refine q_vw (q_sg 487 488) (h' := q_hp (0, r, m, 499, 492, ext, rx, L) (q_ws I (q_ins 487 (q_ws I lI 488) (q_ins 488 (q_ws I lI 487) lI))) (q_ws E lE)) (ls' := [some (.ref 473), some (.ref 488), some (.int x2), none, none, none]) (st' := []) (Nat.le_refl _) (Nat.le_of_ble_eq_true rfl) hn0 (fun a ha => q_sg_n (by omega) (by omega)) ?_ ?_ ?_ ?_ rfl rfl (fun a ha => absurd ha List.not_mem_nil) ?_ ?_ hJ
  · intro a h1 h2
    have h2 : a < 492 := h2
    rcases q_sg_cases (r1 := 487) (r2 := 488) (by decide) a with ⟨rfl, e⟩ | ⟨rfl, e⟩ | ⟨h3, h4, e⟩ <;> rw [e]
    · exact ⟨Nat.le_of_ble_eq_true rfl, Nat.le_of_ble_eq_true rfl⟩
    · exact ⟨Nat.le_of_ble_eq_true rfl, Nat.le_of_ble_eq_true rfl⟩
    · exact ⟨h1, h2⟩
  · intro a b _ _ _ _ hab
    have := congrArg (q_sg 487 488) hab
    rwa [q_sg_sg (by decide), q_sg_sg (by decide)] at this
  · intro a h1 h2
    have h2 : a < 492 := h2
    have hrow : q_ws I (q_ins 487 (q_ws I lI 488) (q_ins 488 (q_ws I lI 487) lI)) a = q_ws I lI (q_sg 487 488 a) := by
      rw [q_ws_ins, q_ws_ins]
      rcases q_sg_cases (r1 := 487) (r2 := 488) (by decide) a with ⟨rfl, e⟩ | ⟨rfl, e⟩ | ⟨h3, h4, e⟩ <;> rw [e]
      · rw [q_ur_s]
      · rw [q_ur_n _ _ _ (by decide), q_ur_s]
      · rw [q_ur_n _ _ _ h3, q_ur_n _ _ _ h4]
    rcases q_sg_cases (r1 := 487) (r2 := 488) (by decide) a with ⟨rfl, e⟩ | ⟨rfl, e⟩ | ⟨h3, h4, e⟩
    · exact ⟨by rw [e]; rfl, hrow⟩
    · exact ⟨by rw [e]; rfl, hrow⟩
    · refine q_cmp_self (X := (0, r, m, 499, 492, ext, rx, L)) h1 h2 e hrow rfl rfl rfl rfl (q_R0_of h2) (fun j hj => ?_) (fun j hj => ?_)
      · show q_u2 (q_u2 (q_aR (0, r, m, 499, 492, ext, rx, L)) 473 4 (some 488)) 473 5 (some 487) a j = _
        have ha : a ≠ 473 := by omega
        rw [q_u2_n _ _ _ _ _ _ ha, q_u2_n _ _ _ _ _ _ ha, q_R0_of h2]
        by_cases hj2 : j < 24
        · exact q_fx_of (σ := q_sg 487 488) (B := 473) (by decide +kernel) h1 h2 ha hj2
        · rw [q_R3 hj (by omega)]; rfl
      · show q_u2 (q_u2 (q_aR (0, r, m, 499, 492, ext, rx, L)) 473 4 (some 488)) 473 5 (some 487) a j = _
        by_cases ha : a = 473
        · subst ha
          match j, hj with
          | 0, _ | 1, _ | 2, _ | 3, _ | 4, _ | 5, _ | 6, _ => rfl
          | z + 7, _ => rfl
        · rw [q_u2_n _ _ _ _ _ _ ha, q_u2_n _ _ _ _ _ _ ha, q_R0_of h2]
          exact q_fx_of (σ := q_sg 487 488) (B := 473) (by decide +kernel) h1 h2 ha hj
  · intro hC
    refine ⟨fun a j b hb => ?_, hC.2.1, hC.2.2⟩
    by_cases ha : a = 473 ∧ (j = 4 ∨ j = 5)
    · obtain ⟨rfl, rfl | rfl⟩ := ha <;> (cases hb; show _ < 492; decide)
    · refine hC.1 a j b ?_
      show q_u2 (q_u2 (q_aR (0, r, m, 499, 492, ext, rx, L)) 473 4 (some 488)) 473 5 (some 487) a j = some b
      rw [q_u2_of, if_neg (fun h => ha ⟨h.1, Or.inr h.2⟩), q_u2_of, if_neg (fun h => ha ⟨h.1, Or.inl h.2⟩)]
      exact hb
  · intro i a ha
    match i, ha with
    | 0, ha => cases ha; show _ < 492; decide
    | 1, ha => cases ha; show _ < 492; decide
    | 2, ha => cases ha
    | 3, ha => cases ha
    | 4, ha => cases ha
    | 5, ha => cases ha
    | z + 6, ha => simp [q_nth] at ha
  · intro a ha hm
    refine q_sg_n (fun h => hm ?_) (fun h => hm ?_) <;> (subst h; simp)
theorem q_ws_end {α : Type} {I : Nat → α} {a : Nat} {r : α} : ∀ {l : List (Nat × α)} {b : Nat}, b ≠ a → q_ws I (l ++ [(a, r)]) b = q_ws I l b
  | [], b, hb => q_ur_n _ _ _ hb
  | p :: t, b, hb => by
    show q_ur (q_ws I (t ++ [(a, r)])) p.1 p.2 b = q_ur (q_ws I t) p.1 p.2 b
    by_cases h : b = p.1
    · subst h; rw [q_ur_s, q_ur_s]
    · rw [q_ur_n _ _ _ h, q_ur_n _ _ _ h, q_ws_end hb]
def q_lt5 {α : Type} (l : List (Nat × α)) : Bool := l.all fun p => Nat.blt p.1 492
theorem q_ws_lt {α : Type} {I : Nat → α} : ∀ {l : List (Nat × α)}, q_lt5 l = true → q_ws I l 492 = I 492
  | [], _ => rfl
  | p :: t, h => by
    unfold q_lt5 at h
    simp only [List.all_cons, Bool.and_eq_true] at h
    have := Nat.blt_eq.mp h.1
    show q_ur (q_ws I t) p.1 p.2 492 = _
    rw [q_ur_n _ _ _ (by omega), q_ws_lt (l := t) (by unfold q_lt5; exact h.2)]
