/-! HayBarnModel.read, by hand: the new plan's rows, and the contract (printed by wip/gen/gen8.py) -/
theorem q_I13_a {a : Nat} {h : q_H} (ha : a < h.1) : q_I (q_F_X13_init a h) a = q_up (q_up (q_up (q_I h a) 1 16) 2 16) 3 2 := by
  have n : ∀ k, h.1 ≤ k → a ≠ k := fun k hk => by omega
  dsimp only [q_F_X13_init, q_X13_init_1, q_X13_init_2, q_X13_init_3, q_X13_init_4, q_X13_init_5, q_X13_init_6, q_X13_init_7, q_X13_init_8, q_X13_init_9, q_X13_init_10, q_X13_init_11, q_X13_init_12, q_X13_init_13, q_X13_init_14, q_X13_init_15, q_X13_init_16, q_X13_init_17, q_X13_init_18, q_X13_init_19, q_X13_init_20, q_X13_init_21, q_new, q_hI, q_hR, q_nx, q_sh, q_I, q_R, q_E, q_L]
  repeat first
    | rw [q_ur_n _ _ _ (n _ (by omega))]
    | rw [q_u2_a]
theorem q_E13_a {a : Nat} {h : q_H} (ha : a < h.1) : q_E (q_F_X13_init a h) a = q_E h a := by
  have n : ∀ k, h.1 ≤ k → a ≠ k := fun k hk => by omega
  dsimp only [q_F_X13_init, q_X13_init_1, q_X13_init_2, q_X13_init_3, q_X13_init_4, q_X13_init_5, q_X13_init_6, q_X13_init_7, q_X13_init_8, q_X13_init_9, q_X13_init_10, q_X13_init_11, q_X13_init_12, q_X13_init_13, q_X13_init_14, q_X13_init_15, q_X13_init_16, q_X13_init_17, q_X13_init_18, q_X13_init_19, q_X13_init_20, q_X13_init_21, q_new, q_hI, q_hR, q_nx, q_sh, q_I, q_R, q_E, q_L]
  repeat first
    | rw [q_ur_n _ _ _ (n _ (by omega))]
theorem q_I13_0 {a : Nat} {h : q_H} (ha : a < h.1) : q_I (q_F_X13_init a h) (h.1) = fun _ => 0 := by
  dsimp only [q_F_X13_init, q_X13_init_1, q_X13_init_2, q_X13_init_3, q_X13_init_4, q_X13_init_5, q_X13_init_6, q_X13_init_7, q_X13_init_8, q_X13_init_9, q_X13_init_10, q_X13_init_11, q_X13_init_12, q_X13_init_13, q_X13_init_14, q_X13_init_15, q_X13_init_16, q_X13_init_17, q_X13_init_18, q_X13_init_19, q_X13_init_20, q_X13_init_21, q_new, q_hI, q_hR, q_nx, q_sh, q_I, q_R, q_E, q_L]
  repeat first
    | rw [q_ur_s]
    | rw [q_ur_n _ _ _ (by omega)]
    | rw [q_u2_row _ _ _ _ _ (by omega)]
theorem q_I13_1 {a : Nat} {h : q_H} (ha : a < h.1) : q_I (q_F_X13_init a h) (h.1 + 1) = fun _ => 0 := by
  dsimp only [q_F_X13_init, q_X13_init_1, q_X13_init_2, q_X13_init_3, q_X13_init_4, q_X13_init_5, q_X13_init_6, q_X13_init_7, q_X13_init_8, q_X13_init_9, q_X13_init_10, q_X13_init_11, q_X13_init_12, q_X13_init_13, q_X13_init_14, q_X13_init_15, q_X13_init_16, q_X13_init_17, q_X13_init_18, q_X13_init_19, q_X13_init_20, q_X13_init_21, q_new, q_hI, q_hR, q_nx, q_sh, q_I, q_R, q_E, q_L]
  repeat first
    | rw [q_ur_s]
    | rw [q_ur_n _ _ _ (by omega)]
    | rw [q_u2_row _ _ _ _ _ (by omega)]
theorem q_I13_2 {a : Nat} {h : q_H} (ha : a < h.1) : q_I (q_F_X13_init a h) (h.1 + 1 + 1) = fun _ => 0 := by
  dsimp only [q_F_X13_init, q_X13_init_1, q_X13_init_2, q_X13_init_3, q_X13_init_4, q_X13_init_5, q_X13_init_6, q_X13_init_7, q_X13_init_8, q_X13_init_9, q_X13_init_10, q_X13_init_11, q_X13_init_12, q_X13_init_13, q_X13_init_14, q_X13_init_15, q_X13_init_16, q_X13_init_17, q_X13_init_18, q_X13_init_19, q_X13_init_20, q_X13_init_21, q_new, q_hI, q_hR, q_nx, q_sh, q_I, q_R, q_E, q_L]
  repeat first
    | rw [q_ur_s]
    | rw [q_ur_n _ _ _ (by omega)]
    | rw [q_u2_row _ _ _ _ _ (by omega)]
theorem q_I13_3 {a : Nat} {h : q_H} (ha : a < h.1) : q_I (q_F_X13_init a h) (h.1 + 1 + 1 + 1) = fun _ => 0 := by
  dsimp only [q_F_X13_init, q_X13_init_1, q_X13_init_2, q_X13_init_3, q_X13_init_4, q_X13_init_5, q_X13_init_6, q_X13_init_7, q_X13_init_8, q_X13_init_9, q_X13_init_10, q_X13_init_11, q_X13_init_12, q_X13_init_13, q_X13_init_14, q_X13_init_15, q_X13_init_16, q_X13_init_17, q_X13_init_18, q_X13_init_19, q_X13_init_20, q_X13_init_21, q_new, q_hI, q_hR, q_nx, q_sh, q_I, q_R, q_E, q_L]
  repeat first
    | rw [q_ur_s]
    | rw [q_ur_n _ _ _ (by omega)]
    | rw [q_u2_row _ _ _ _ _ (by omega)]
theorem q_I13_4 {a : Nat} {h : q_H} (ha : a < h.1) : q_I (q_F_X13_init a h) (h.1 + 1 + 1 + 1 + 1) = fun _ => 0 := by
  dsimp only [q_F_X13_init, q_X13_init_1, q_X13_init_2, q_X13_init_3, q_X13_init_4, q_X13_init_5, q_X13_init_6, q_X13_init_7, q_X13_init_8, q_X13_init_9, q_X13_init_10, q_X13_init_11, q_X13_init_12, q_X13_init_13, q_X13_init_14, q_X13_init_15, q_X13_init_16, q_X13_init_17, q_X13_init_18, q_X13_init_19, q_X13_init_20, q_X13_init_21, q_new, q_hI, q_hR, q_nx, q_sh, q_I, q_R, q_E, q_L]
  repeat first
    | rw [q_ur_s]
    | rw [q_ur_n _ _ _ (by omega)]
    | rw [q_u2_row _ _ _ _ _ (by omega)]
theorem q_I13_5 {a : Nat} {h : q_H} (ha : a < h.1) : q_I (q_F_X13_init a h) (h.1 + 1 + 1 + 1 + 1 + 1) = fun _ => 0 := by
  dsimp only [q_F_X13_init, q_X13_init_1, q_X13_init_2, q_X13_init_3, q_X13_init_4, q_X13_init_5, q_X13_init_6, q_X13_init_7, q_X13_init_8, q_X13_init_9, q_X13_init_10, q_X13_init_11, q_X13_init_12, q_X13_init_13, q_X13_init_14, q_X13_init_15, q_X13_init_16, q_X13_init_17, q_X13_init_18, q_X13_init_19, q_X13_init_20, q_X13_init_21, q_new, q_hI, q_hR, q_nx, q_sh, q_I, q_R, q_E, q_L]
  repeat first
    | rw [q_ur_s]
    | rw [q_ur_n _ _ _ (by omega)]
    | rw [q_u2_row _ _ _ _ _ (by omega)]
theorem q_I13_6 {a : Nat} {h : q_H} (ha : a < h.1) : q_I (q_F_X13_init a h) (h.1 + 1 + 1 + 1 + 1 + 1 + 1) = fun _ => 0 := by
  dsimp only [q_F_X13_init, q_X13_init_1, q_X13_init_2, q_X13_init_3, q_X13_init_4, q_X13_init_5, q_X13_init_6, q_X13_init_7, q_X13_init_8, q_X13_init_9, q_X13_init_10, q_X13_init_11, q_X13_init_12, q_X13_init_13, q_X13_init_14, q_X13_init_15, q_X13_init_16, q_X13_init_17, q_X13_init_18, q_X13_init_19, q_X13_init_20, q_X13_init_21, q_new, q_hI, q_hR, q_nx, q_sh, q_I, q_R, q_E, q_L]
  repeat first
    | rw [q_ur_s]
    | rw [q_ur_n _ _ _ (by omega)]
    | rw [q_u2_row _ _ _ _ _ (by omega)]
theorem q_I13_7 {a : Nat} {h : q_H} (ha : a < h.1) : q_I (q_F_X13_init a h) (h.1 + 1 + 1 + 1 + 1 + 1 + 1 + 1) = fun _ => 0 := by
  dsimp only [q_F_X13_init, q_X13_init_1, q_X13_init_2, q_X13_init_3, q_X13_init_4, q_X13_init_5, q_X13_init_6, q_X13_init_7, q_X13_init_8, q_X13_init_9, q_X13_init_10, q_X13_init_11, q_X13_init_12, q_X13_init_13, q_X13_init_14, q_X13_init_15, q_X13_init_16, q_X13_init_17, q_X13_init_18, q_X13_init_19, q_X13_init_20, q_X13_init_21, q_new, q_hI, q_hR, q_nx, q_sh, q_I, q_R, q_E, q_L]
  repeat first
    | rw [q_ur_s]
    | rw [q_ur_n _ _ _ (by omega)]
    | rw [q_u2_row _ _ _ _ _ (by omega)]
theorem q_I13_8 {a : Nat} {h : q_H} (ha : a < h.1) : q_I (q_F_X13_init a h) (h.1 + 1 + 1 + 1 + 1 + 1 + 1 + 1 + 1) = fun _ => 0 := by
  dsimp only [q_F_X13_init, q_X13_init_1, q_X13_init_2, q_X13_init_3, q_X13_init_4, q_X13_init_5, q_X13_init_6, q_X13_init_7, q_X13_init_8, q_X13_init_9, q_X13_init_10, q_X13_init_11, q_X13_init_12, q_X13_init_13, q_X13_init_14, q_X13_init_15, q_X13_init_16, q_X13_init_17, q_X13_init_18, q_X13_init_19, q_X13_init_20, q_X13_init_21, q_new, q_hI, q_hR, q_nx, q_sh, q_I, q_R, q_E, q_L]
  repeat first
    | rw [q_ur_s]
    | rw [q_ur_n _ _ _ (by omega)]
    | rw [q_u2_row _ _ _ _ _ (by omega)]
section
variable {g : q_G} {t r : Nat} {ext : Nat → q_Sh} {rx : Nat → Nat → Option Nat} {L : Nat → Nat → Int64} {I : Nat → Nat → Int32} {E : Nat → Nat → Option Nat}
abbrev q_hM (t r : Nat) (ext : Nat → q_Sh) (rx : Nat → Nat → Option Nat) (L : Nat → Nat → Int64) (I : Nat → Nat → Int32) (E : Nat → Nat → Option Nat) : q_H := q_new (q_hp (t, r, 1, 499, 529, ext, rx, L) I E) (0, 11, 0)
theorem q_hM_1 : (q_hM t r ext rx L I E).1 = 530 := rfl
theorem q_hM_lt : 529 < (q_hM t r ext rx L I E).1 := by rw [q_hM_1]; decide
theorem q_hM_I : q_I (q_hM t r ext rx L I E) 529 = fun _ => 0 := show q_ur I 529 (fun _ => 0) 529 = _ from q_ur_s _ _ _
theorem q_hM_R : q_R (q_hM t r ext rx L I E) 529 = fun _ => none := show q_ur (q_RX 499 rx) 529 (fun _ => none) 529 = _ from q_ur_s _ _ _
theorem q_hM_E : q_E (q_hM t r ext rx L I E) 529 = fun _ => none := show q_ur E 529 (fun _ => none) 529 = _ from q_ur_s _ _ _
theorem q_hN_I529 : q_I (q_hN t r ext rx L I E) 529 = q_mp0 := (q_I13_a q_hM_lt).trans (by rw [q_hM_I]; rfl)
theorem q_hN_E529 : q_E (q_hN t r ext rx L I E) 529 = fun _ => none := (q_E13_a q_hM_lt).trans q_hM_E
theorem q_hN_I530 : q_I (q_hN t r ext rx L I E) 530 = fun _ => 0 := q_I13_0 (h := q_hM t r ext rx L I E) q_hM_lt
theorem q_hN_I531 : q_I (q_hN t r ext rx L I E) 531 = fun _ => 0 := q_I13_1 (h := q_hM t r ext rx L I E) q_hM_lt
theorem q_hN_I532 : q_I (q_hN t r ext rx L I E) 532 = fun _ => 0 := q_I13_2 (h := q_hM t r ext rx L I E) q_hM_lt
theorem q_hN_I533 : q_I (q_hN t r ext rx L I E) 533 = fun _ => 0 := q_I13_3 (h := q_hM t r ext rx L I E) q_hM_lt
theorem q_hN_I534 : q_I (q_hN t r ext rx L I E) 534 = fun _ => 0 := q_I13_4 (h := q_hM t r ext rx L I E) q_hM_lt
theorem q_hN_I535 : q_I (q_hN t r ext rx L I E) 535 = fun _ => 0 := q_I13_5 (h := q_hM t r ext rx L I E) q_hM_lt
theorem q_hN_I536 : q_I (q_hN t r ext rx L I E) 536 = fun _ => 0 := q_I13_6 (h := q_hM t r ext rx L I E) q_hM_lt
theorem q_hN_I537 : q_I (q_hN t r ext rx L I E) 537 = fun _ => 0 := q_I13_7 (h := q_hM t r ext rx L I E) q_hM_lt
theorem q_hN_I538 : q_I (q_hN t r ext rx L I E) 538 = fun _ => 0 := q_I13_8 (h := q_hM t r ext rx L I E) q_hM_lt
theorem q_hN_R530 : q_R (q_hN t r ext rx L I E) 530 = fun _ => none := q_R13_0 (h := q_hM t r ext rx L I E) q_hM_lt
theorem q_hN_R531 : q_R (q_hN t r ext rx L I E) 531 = fun _ => none := q_R13_1 (h := q_hM t r ext rx L I E) q_hM_lt
theorem q_hN_R532 : q_R (q_hN t r ext rx L I E) 532 = fun _ => none := q_R13_2 (h := q_hM t r ext rx L I E) q_hM_lt
theorem q_hN_R533 : q_R (q_hN t r ext rx L I E) 533 = fun _ => none := q_R13_3 (h := q_hM t r ext rx L I E) q_hM_lt
theorem q_hN_R534 : q_R (q_hN t r ext rx L I E) 534 = fun _ => none := q_R13_4 (h := q_hM t r ext rx L I E) q_hM_lt
theorem q_hN_R535 : q_R (q_hN t r ext rx L I E) 535 = fun _ => none := q_R13_5 (h := q_hM t r ext rx L I E) q_hM_lt
theorem q_hN_R536 : q_R (q_hN t r ext rx L I E) 536 = fun _ => none := q_R13_6 (h := q_hM t r ext rx L I E) q_hM_lt
theorem q_hN_R537 : q_R (q_hN t r ext rx L I E) 537 = fun _ => none := q_R13_7 (h := q_hM t r ext rx L I E) q_hM_lt
theorem q_hN_R538 : q_R (q_hN t r ext rx L I E) 538 = fun _ => none := q_R13_8 (h := q_hM t r ext rx L I E) q_hM_lt
theorem q_hN_R529 : q_R (q_hN t r ext rx L I E) 529 = fun j => q_rr [none, none, none, none, none, none, some 530, some 531, some 532, some 533, some 534, some 535, some 536, some 537, none, some 538] j := by
  refine (q_R13_a q_hM_lt).trans ?_
  rw [q_hM_R, q_hM_1]
  funext j
  match j with
  | 0 | 1 | 2 | 3 | 4 | 5 | 6 | 7 | 8 | 9 | 10 | 11 | 12 | 13 | 14 | 15 => rfl
  | z + 16 => rfl
theorem q_hN_R : q_u2 (q_R (q_hN t r ext rx L I E)) 492 12 (some 529) = q_RX 529 (q_pR rx) := by
  funext a
  by_cases h1 : a < 529
  · by_cases h2 : a = 492
    · subst h2
      rw [q_u2_a, (q_hN_old (show 492 < 529 by decide)).2.2.1]
      funext j
      match j with
      | 0 | 1 | 2 | 3 | 4 | 5 | 6 | 7 | 8 | 9 | 10 | 11 | 12 | 13 | 14 | 15 | 16 | 17 | 18 => rfl
      | z + 19 => rfl
    · rw [q_u2_row _ _ _ _ _ h2, (q_hN_old h1).2.2.1]
      unfold q_RX
      rw [q_beqN h2, Nat.blt_eq.mpr h1]; rfl
  · rw [q_u2_row _ _ _ _ _ (show a ≠ 492 by omega)]
    by_cases h3 : a < 539
    · rcases q_pcases (by omega) h3 with e | e | e | e | e | e | e | e | e | e
      · subst e; rw [q_hN_R529]; rfl
      · subst e; rw [q_hN_R530]; rfl
      · subst e; rw [q_hN_R531]; rfl
      · subst e; rw [q_hN_R532]; rfl
      · subst e; rw [q_hN_R533]; rfl
      · subst e; rw [q_hN_R534]; rfl
      · subst e; rw [q_hN_R535]; rfl
      · subst e; rw [q_hN_R536]; rfl
      · subst e; rw [q_hN_R537]; rfl
      · subst e; rw [q_hN_R538]; rfl
    · rw [(q_hN_far (by omega)).2]
      have e1 : Nat.blt a 539 = false := by
        cases hb : Nat.blt a 539 with
        | false => rfl
        | true => exact absurd (Nat.blt_eq.mp hb) h3
      have e2 : Nat.blt a 529 = false := by
        cases hb : Nat.blt a 529 with
        | false => rfl
        | true => exact absurd (Nat.blt_eq.mp hb) h1
      unfold q_RX q_pR
      rw [q_beqN (show a ≠ 492 by omega), e2, e1]; rfl
/-- what is read into: a new plan -/
abbrev q_rd0 (I : Nat → Nat → Int32) := f_X15_read (I 492) (I 493) (I 494) (I 495) (I 496) (I 497) (I 498) q_mp0 (fun _ => 0) (fun _ => 0) (fun _ => 0) (fun _ => 0) (fun _ => 0) (fun _ => 0) (fun _ => 0) (fun _ => 0) (fun _ => 0)
theorem ctn_X15_read {d : Nat} (hd : 406 ≤ d) {r0 : Int32 × (Nat → Int32) × (Nat → Int32) × (Nat → Int32) × (Nat → Int32) × (Nat → Int32) × (Nat → Int32) × (Nat → Int32) × (Nat → Int32) × (Nat → Int32) × (Nat → Int32) × (Nat → Int32) × (Nat → Int32) × (Nat → Int32) × (Nat → Int32) × (Nat → Int32) × (Nat → Int32)} (hf : q_rd0 I = some r0) : q_Ct g m_X15_read d 10 1360 [] [.ref 492] (q_hp (t, r, 1, 499, 529, ext, rx, L) I E) (fun o h' => o = .inl (some (.int r0.1)) ∧ ∃ I1 E1 L1, (∀ a, a < 529 → I1 a = I a ∧ E1 a = E a ∧ L1 a = L a) ∧ E1 529 = (fun _ => none) ∧ h' = q_hp (t, r, 0, 529, 539, q_pE ext, q_pR rx, L1) (q_ws I1 [(492, r0.2.1), (494, r0.2.2.1), (495, r0.2.2.2.1), (496, r0.2.2.2.2.1), (497, r0.2.2.2.2.2.1), (498, r0.2.2.2.2.2.2.1), (529, r0.2.2.2.2.2.2.2.1), (530, r0.2.2.2.2.2.2.2.2.1), (531, r0.2.2.2.2.2.2.2.2.2.1), (532, r0.2.2.2.2.2.2.2.2.2.2.1), (533, r0.2.2.2.2.2.2.2.2.2.2.2.1), (534, r0.2.2.2.2.2.2.2.2.2.2.2.2.1), (535, r0.2.2.2.2.2.2.2.2.2.2.2.2.2.1), (536, r0.2.2.2.2.2.2.2.2.2.2.2.2.2.2.1), (537, r0.2.2.2.2.2.2.2.2.2.2.2.2.2.2.2.1), (538, r0.2.2.2.2.2.2.2.2.2.2.2.2.2.2.2.2)]) E1) := by
  refine q_Ct_of ok_X15_read (Nat.le_of_ble_eq_true rfl) ?_ _ rfl rfl
  refine q_go 1 (c' := (1, [some (.ref 492), none, none], [.ref 492], q_hp (t, r, 1, 499, 529, ext, rx, L) I E)) ok_X15_read rfl ?_
  refine q_o_new (h := q_hp (t, r, 1, 499, 529, ext, rx, L) I E) ok_X15_read rfl rfl (show vwCl[11]? = some _ from rfl) q_i1_11 q_i2_11 (Nat.le_of_ble_eq_true rfl) (Nat.le_of_ble_eq_true rfl) ?_
  refine q_go 1 (c' := (3, [some (.ref 492), none, none], [.ref 529, .ref 529, .ref 492], q_new (q_hp (t, r, 1, 499, 529, ext, rx, L) I E) (0, 11, 0))) ok_X15_read rfl ?_
  refine q_callI (h := q_new (q_hp (t, r, 1, 499, 529, ext, rx, L) I E) (0, 11, 0)) (M2 := m_X13_init) (b := 529) (As := []) (rest := [.ref 529, .ref 492]) ok_X15_read ok_X13_init rfl (by first | exact Or.inl rfl | exact Or.inr ⟨_, rfl⟩) ci_X13_init rfl (ctn_X13_init (d := 2) (Nat.le_refl _) (h := q_new (q_hp (t, r, 1, 499, 529, ext, rx, L) I E) (0, 11, 0)) (a := 529) (by decide) (Nat.lt_succ_self _) (show q_ur (q_aS (t, r, 1, 499, 529, ext, rx, L)) 529 (0, 11, 0) 529 = (0, 11, 0) from q_ur_s _ _ _)) (Nat.le_trans (by decide) hd) (Nat.le_of_ble_eq_true rfl) (Nat.le_of_ble_eq_true rfl) (Nat.le_of_ble_eq_true rfl) (fun x hx => absurd hx List.not_mem_nil) (fun _ _ _ => List.not_mem_nil) (fun _ _ => List.not_mem_nil) rfl (fun v h' hq => ?_) (fun E9 h' hq => by cases hq.1)
  obtain ⟨e1, e2⟩ := hq
  cases e1
  subst e2
  refine q_o_put9 (h := q_hN t r ext rx L I E) (v := 1) (v2 := 0) ok_X15_read rfl (by decide) (q_hN_old (show 492 < 529 by decide)).1 (by decide) rfl (q_oth_of (ci := 13) (v := 1) (k := 12) (by decide +kernel)) ?_
  have hh : ((q_nx (q_hN t r ext rx L I E), q_ur (q_sh (q_hN t r ext rx L I E)) 492 (0, 13, 0), q_I (q_hN t r ext rx L I E), q_u2 (q_R (q_hN t r ext rx L I E)) 492 12 (some 529), q_E (q_hN t r ext rx L I E), q_L (q_hN t r ext rx L I E)) : q_H) = q_hp (t, r, 0, 529, 539, q_pE ext, q_pR rx, q_L (q_hN t r ext rx L I E)) (q_I (q_hN t r ext rx L I E)) (q_E (q_hN t r ext rx L I E)) := by
    have hnn : q_nx (q_hN t r ext rx L I E) = 539 := rfl
    rw [hnn, q_hN_sh, q_hN_R]
  rw [hh]
  refine tl_X15_read_492_P (I := q_I (q_hN t r ext rx L I E)) (E := q_E (q_hN t r ext rx L I E)) (r0 := r0) (Nat.le_trans (by decide) hd) (Nat.le_of_ble_eq_true rfl) (Nat.le_of_ble_eq_true rfl) ?_ (fun o h2 e1 e2 => ⟨e1, _, _, _, fun a ha => ⟨(q_hN_old ha).2.1, (q_hN_old ha).2.2.2.1, (q_hN_old ha).2.2.2.2⟩, q_hN_E529, e2⟩)
  rw [← hf]
  show f_X15_read _ _ _ _ _ _ _ _ _ _ _ _ _ _ _ _ _ = f_X15_read _ _ _ _ _ _ _ _ _ _ _ _ _ _ _ _ _
  rw [(q_hN_old (show 492 < 529 by decide)).2.1, (q_hN_old (show 493 < 529 by decide)).2.1, (q_hN_old (show 494 < 529 by decide)).2.1, (q_hN_old (show 495 < 529 by decide)).2.1, (q_hN_old (show 496 < 529 by decide)).2.1, (q_hN_old (show 497 < 529 by decide)).2.1, (q_hN_old (show 498 < 529 by decide)).2.1, q_hN_I529, q_hN_I530, q_hN_I531, q_hN_I532, q_hN_I533, q_hN_I534, q_hN_I535, q_hN_I536, q_hN_I537, q_hN_I538]
end
