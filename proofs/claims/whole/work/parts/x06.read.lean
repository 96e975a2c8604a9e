/-! HayBarnModel.read, by hand: the new plan at 529 to 538 -/
theorem q_pcases {a : Nat} (h1 : 529 ≤ a) (h2 : a < 539) : a = 529 ∨ a = 530 ∨ a = 531 ∨ a = 532 ∨ a = 533 ∨ a = 534 ∨ a = 535 ∨ a = 536 ∨ a = 537 ∨ a = 538 := by omega
/-- the plan's numbers at the start -/
def q_mp0 : Nat → Int32 := q_up (q_up (q_up (fun _ => 0) 1 16) 2 16) 3 2
section
variable {g : q_G} {t r : Nat} {ext : Nat → q_Sh} {rx : Nat → Nat → Option Nat} {L : Nat → Nat → Int64} {I : Nat → Nat → Int32} {E : Nat → Nat → Option Nat}
/-- the heap with the new plan -/
abbrev q_hN (t r : Nat) (ext : Nat → q_Sh) (rx : Nat → Nat → Option Nat) (L : Nat → Nat → Int64) (I : Nat → Nat → Int32) (E : Nat → Nat → Option Nat) : q_H := q_F_X13_init 529 (q_new (q_hp (t, r, 1, 499, 529, ext, rx, L) I E) (0, 11, 0))
theorem q_hN_old {t r : Nat} {ext : Nat → q_Sh} {rx : Nat → Nat → Option Nat} {L : Nat → Nat → Int64} {I : Nat → Nat → Int32} {E : Nat → Nat → Option Nat} {a : Nat} (h : a < 529) : q_sh (q_hN t r ext rx L I E) a = q_shX t r 1 ext a ∧ q_I (q_hN t r ext rx L I E) a = I a ∧ q_R (q_hN t r ext rx L I E) a = q_RX 499 rx a ∧ q_E (q_hN t r ext rx L I E) a = E a ∧ q_L (q_hN t r ext rx L I E) a = L a := by
  have n : ∀ k, 529 ≤ k → a ≠ k := fun k hk => by omega
  refine ⟨?_, ?_, ?_, ?_, ?_⟩ <;>
  (dsimp only [q_hN, q_F_X13_init, q_X13_init_1, q_X13_init_2, q_X13_init_3, q_X13_init_4, q_X13_init_5, q_X13_init_6, q_X13_init_7, q_X13_init_8, q_X13_init_9, q_X13_init_10, q_X13_init_11, q_X13_init_12, q_X13_init_13, q_X13_init_14, q_X13_init_15, q_X13_init_16, q_X13_init_17, q_X13_init_18, q_X13_init_19, q_X13_init_20, q_X13_init_21, q_new, q_hI, q_hR, q_nx, q_sh, q_I, q_R, q_E, q_L, q_hp, q_aS, q_aR]
   repeat first
    | rw [q_ur_n _ _ _ (n _ (by omega))]
    | rw [q_u2_row _ _ _ _ _ (n _ (by omega))])
theorem q_hN_far {t r : Nat} {ext : Nat → q_Sh} {rx : Nat → Nat → Option Nat} {L : Nat → Nat → Int64} {I : Nat → Nat → Int32} {E : Nat → Nat → Option Nat} {a : Nat} (h : 539 ≤ a) : q_sh (q_hN t r ext rx L I E) a = q_shX t r 1 ext a ∧ q_R (q_hN t r ext rx L I E) a = q_RX 499 rx a := by
  have n : ∀ k, k < 539 → a ≠ k := fun k hk => by omega
  refine ⟨?_, ?_⟩ <;>
  (dsimp only [q_hN, q_F_X13_init, q_X13_init_1, q_X13_init_2, q_X13_init_3, q_X13_init_4, q_X13_init_5, q_X13_init_6, q_X13_init_7, q_X13_init_8, q_X13_init_9, q_X13_init_10, q_X13_init_11, q_X13_init_12, q_X13_init_13, q_X13_init_14, q_X13_init_15, q_X13_init_16, q_X13_init_17, q_X13_init_18, q_X13_init_19, q_X13_init_20, q_X13_init_21, q_new, q_hI, q_hR, q_nx, q_sh, q_I, q_R, q_E, q_L, q_hp, q_aS, q_aR]
   repeat first
    | rw [q_ur_n _ _ _ (n _ (by omega))]
    | rw [q_u2_row _ _ _ _ _ (n _ (by omega))])
theorem q_hN_sh : q_ur (q_sh (q_hN t r ext rx L I E)) 492 (0, 13, 0) = q_shX t r 0 (q_pE ext) := by
  funext a
  by_cases h1 : a < 529
  · by_cases h2 : a = 492
    · subst h2; rw [q_ur_s]; rfl
    · rw [q_ur_n _ _ _ h2, (q_hN_old h1).1]
      unfold q_shX
      rw [q_beqN h2, Nat.blt_eq.mpr h1]; rfl
  · rw [q_ur_n _ _ _ (show a ≠ 492 by omega)]
    by_cases h3 : a < 539
    · rcases q_pcases (by omega) h3 with e | e | e | e | e | e | e | e | e | e <;> (subst e; rfl)
    · rw [(q_hN_far (by omega)).1]
      have e1 : Nat.blt a 539 = false := by
        cases hb : Nat.blt a 539 with
        | false => rfl
        | true => exact absurd (Nat.blt_eq.mp hb) h3
      have e2 : Nat.blt a 529 = false := by
        cases hb : Nat.blt a 529 with
        | false => rfl
        | true => exact absurd (Nat.blt_eq.mp hb) h1
      unfold q_shX q_pE
      rw [q_beqN (show a ≠ 473 by omega), q_beqN (show a ≠ 450 by omega), q_beqN (show a ≠ 492 by omega), e2, e1]; rfl
theorem q_u2_a {α : Type} {f : Nat → Nat → α} {a j : Nat} {x : α} : q_u2 f a j x a = q_up (f a) j x := by
  funext i
  rw [q_u2_of, m_up_of]
  by_cases h : i = j
  · rw [if_pos ⟨rfl, h⟩, if_pos h]
  · rw [if_neg (fun y => h y.2), if_neg h]
theorem q_R13_a {a : Nat} {h : q_H} (ha : a < h.1) : q_R (q_F_X13_init a h) a = q_up (q_up (q_up (q_up (q_up (q_up (q_up (q_up (q_up (q_R h a) 6 (some h.1)) 7 (some (h.1 + 1))) 8 (some (h.1 + 2))) 9 (some (h.1 + 3))) 10 (some (h.1 + 4))) 11 (some (h.1 + 5))) 12 (some (h.1 + 6))) 13 (some (h.1 + 7))) 15 (some (h.1 + 8)) := by
  have n : ∀ k, h.1 ≤ k → a ≠ k := fun k hk => by omega
  dsimp only [q_F_X13_init, q_X13_init_1, q_X13_init_2, q_X13_init_3, q_X13_init_4, q_X13_init_5, q_X13_init_6, q_X13_init_7, q_X13_init_8, q_X13_init_9, q_X13_init_10, q_X13_init_11, q_X13_init_12, q_X13_init_13, q_X13_init_14, q_X13_init_15, q_X13_init_16, q_X13_init_17, q_X13_init_18, q_X13_init_19, q_X13_init_20, q_X13_init_21, q_new, q_hI, q_hR, q_nx, q_sh, q_I, q_R, q_E, q_L]
  repeat first
    | rw [q_ur_n _ _ _ (n _ (by omega))]
    | rw [q_u2_a]
theorem q_R13_0 {a : Nat} {h : q_H} (ha : a < h.1) : q_R (q_F_X13_init a h) (h.1) = fun _ => none := by
  dsimp only [q_F_X13_init, q_X13_init_1, q_X13_init_2, q_X13_init_3, q_X13_init_4, q_X13_init_5, q_X13_init_6, q_X13_init_7, q_X13_init_8, q_X13_init_9, q_X13_init_10, q_X13_init_11, q_X13_init_12, q_X13_init_13, q_X13_init_14, q_X13_init_15, q_X13_init_16, q_X13_init_17, q_X13_init_18, q_X13_init_19, q_X13_init_20, q_X13_init_21, q_new, q_hI, q_hR, q_nx, q_sh, q_I, q_R, q_E, q_L]
  repeat first
    | rw [q_ur_s]
    | rw [q_ur_n _ _ _ (by omega)]
    | rw [q_u2_row _ _ _ _ _ (by omega)]
theorem q_R13_1 {a : Nat} {h : q_H} (ha : a < h.1) : q_R (q_F_X13_init a h) (h.1 + 1) = fun _ => none := by
  dsimp only [q_F_X13_init, q_X13_init_1, q_X13_init_2, q_X13_init_3, q_X13_init_4, q_X13_init_5, q_X13_init_6, q_X13_init_7, q_X13_init_8, q_X13_init_9, q_X13_init_10, q_X13_init_11, q_X13_init_12, q_X13_init_13, q_X13_init_14, q_X13_init_15, q_X13_init_16, q_X13_init_17, q_X13_init_18, q_X13_init_19, q_X13_init_20, q_X13_init_21, q_new, q_hI, q_hR, q_nx, q_sh, q_I, q_R, q_E, q_L]
  repeat first
    | rw [q_ur_s]
    | rw [q_ur_n _ _ _ (by omega)]
    | rw [q_u2_row _ _ _ _ _ (by omega)]
theorem q_R13_2 {a : Nat} {h : q_H} (ha : a < h.1) : q_R (q_F_X13_init a h) (h.1 + 1 + 1) = fun _ => none := by
  dsimp only [q_F_X13_init, q_X13_init_1, q_X13_init_2, q_X13_init_3, q_X13_init_4, q_X13_init_5, q_X13_init_6, q_X13_init_7, q_X13_init_8, q_X13_init_9, q_X13_init_10, q_X13_init_11, q_X13_init_12, q_X13_init_13, q_X13_init_14, q_X13_init_15, q_X13_init_16, q_X13_init_17, q_X13_init_18, q_X13_init_19, q_X13_init_20, q_X13_init_21, q_new, q_hI, q_hR, q_nx, q_sh, q_I, q_R, q_E, q_L]
  repeat first
    | rw [q_ur_s]
    | rw [q_ur_n _ _ _ (by omega)]
    | rw [q_u2_row _ _ _ _ _ (by omega)]
theorem q_R13_3 {a : Nat} {h : q_H} (ha : a < h.1) : q_R (q_F_X13_init a h) (h.1 + 1 + 1 + 1) = fun _ => none := by
  dsimp only [q_F_X13_init, q_X13_init_1, q_X13_init_2, q_X13_init_3, q_X13_init_4, q_X13_init_5, q_X13_init_6, q_X13_init_7, q_X13_init_8, q_X13_init_9, q_X13_init_10, q_X13_init_11, q_X13_init_12, q_X13_init_13, q_X13_init_14, q_X13_init_15, q_X13_init_16, q_X13_init_17, q_X13_init_18, q_X13_init_19, q_X13_init_20, q_X13_init_21, q_new, q_hI, q_hR, q_nx, q_sh, q_I, q_R, q_E, q_L]
  repeat first
    | rw [q_ur_s]
    | rw [q_ur_n _ _ _ (by omega)]
    | rw [q_u2_row _ _ _ _ _ (by omega)]
theorem q_R13_4 {a : Nat} {h : q_H} (ha : a < h.1) : q_R (q_F_X13_init a h) (h.1 + 1 + 1 + 1 + 1) = fun _ => none := by
  dsimp only [q_F_X13_init, q_X13_init_1, q_X13_init_2, q_X13_init_3, q_X13_init_4, q_X13_init_5, q_X13_init_6, q_X13_init_7, q_X13_init_8, q_X13_init_9, q_X13_init_10, q_X13_init_11, q_X13_init_12, q_X13_init_13, q_X13_init_14, q_X13_init_15, q_X13_init_16, q_X13_init_17, q_X13_init_18, q_X13_init_19, q_X13_init_20, q_X13_init_21, q_new, q_hI, q_hR, q_nx, q_sh, q_I, q_R, q_E, q_L]
  repeat first
    | rw [q_ur_s]
    | rw [q_ur_n _ _ _ (by omega)]
    | rw [q_u2_row _ _ _ _ _ (by omega)]
theorem q_R13_5 {a : Nat} {h : q_H} (ha : a < h.1) : q_R (q_F_X13_init a h) (h.1 + 1 + 1 + 1 + 1 + 1) = fun _ => none := by
  dsimp only [q_F_X13_init, q_X13_init_1, q_X13_init_2, q_X13_init_3, q_X13_init_4, q_X13_init_5, q_X13_init_6, q_X13_init_7, q_X13_init_8, q_X13_init_9, q_X13_init_10, q_X13_init_11, q_X13_init_12, q_X13_init_13, q_X13_init_14, q_X13_init_15, q_X13_init_16, q_X13_init_17, q_X13_init_18, q_X13_init_19, q_X13_init_20, q_X13_init_21, q_new, q_hI, q_hR, q_nx, q_sh, q_I, q_R, q_E, q_L]
  repeat first
    | rw [q_ur_s]
    | rw [q_ur_n _ _ _ (by omega)]
    | rw [q_u2_row _ _ _ _ _ (by omega)]
theorem q_R13_6 {a : Nat} {h : q_H} (ha : a < h.1) : q_R (q_F_X13_init a h) (h.1 + 1 + 1 + 1 + 1 + 1 + 1) = fun _ => none := by
  dsimp only [q_F_X13_init, q_X13_init_1, q_X13_init_2, q_X13_init_3, q_X13_init_4, q_X13_init_5, q_X13_init_6, q_X13_init_7, q_X13_init_8, q_X13_init_9, q_X13_init_10, q_X13_init_11, q_X13_init_12, q_X13_init_13, q_X13_init_14, q_X13_init_15, q_X13_init_16, q_X13_init_17, q_X13_init_18, q_X13_init_19, q_X13_init_20, q_X13_init_21, q_new, q_hI, q_hR, q_nx, q_sh, q_I, q_R, q_E, q_L]
  repeat first
    | rw [q_ur_s]
    | rw [q_ur_n _ _ _ (by omega)]
    | rw [q_u2_row _ _ _ _ _ (by omega)]
theorem q_R13_7 {a : Nat} {h : q_H} (ha : a < h.1) : q_R (q_F_X13_init a h) (h.1 + 1 + 1 + 1 + 1 + 1 + 1 + 1) = fun _ => none := by
  dsimp only [q_F_X13_init, q_X13_init_1, q_X13_init_2, q_X13_init_3, q_X13_init_4, q_X13_init_5, q_X13_init_6, q_X13_init_7, q_X13_init_8, q_X13_init_9, q_X13_init_10, q_X13_init_11, q_X13_init_12, q_X13_init_13, q_X13_init_14, q_X13_init_15, q_X13_init_16, q_X13_init_17, q_X13_init_18, q_X13_init_19, q_X13_init_20, q_X13_init_21, q_new, q_hI, q_hR, q_nx, q_sh, q_I, q_R, q_E, q_L]
  repeat first
    | rw [q_ur_s]
    | rw [q_ur_n _ _ _ (by omega)]
    | rw [q_u2_row _ _ _ _ _ (by omega)]
theorem q_R13_8 {a : Nat} {h : q_H} (ha : a < h.1) : q_R (q_F_X13_init a h) (h.1 + 1 + 1 + 1 + 1 + 1 + 1 + 1 + 1) = fun _ => none := by
  dsimp only [q_F_X13_init, q_X13_init_1, q_X13_init_2, q_X13_init_3, q_X13_init_4, q_X13_init_5, q_X13_init_6, q_X13_init_7, q_X13_init_8, q_X13_init_9, q_X13_init_10, q_X13_init_11, q_X13_init_12, q_X13_init_13, q_X13_init_14, q_X13_init_15, q_X13_init_16, q_X13_init_17, q_X13_init_18, q_X13_init_19, q_X13_init_20, q_X13_init_21, q_new, q_hI, q_hR, q_nx, q_sh, q_I, q_R, q_E, q_L]
  repeat first
    | rw [q_ur_s]
    | rw [q_ur_n _ _ _ (by omega)]
    | rw [q_u2_row _ _ _ _ _ (by omega)]
end
