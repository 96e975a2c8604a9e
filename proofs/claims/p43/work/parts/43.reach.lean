/-! MATH: all that is reached from hooks, on both sides -/
theorem m_forgetL {mi : Nat → Int32} : ∀ (n i fu : Nat), i + n = 136 → n < fu → f_X14_forget_L6 fu (q_fil i 0 mi) (nI i) = some (q_fil 136 0 mi) := by
  intro n
  induction n with
  | zero =>
    intro i fu hi hfu
    obtain rfl : i = 136 := by omega
    obtain ⟨fu, rfl⟩ : ∃ z, fu = z + 1 := ⟨fu - 1, by omega⟩
    rw [f_X14_forget_L6, if_pos (show (136 : Int32) ≤ nI 136 from nI_le (Nat.le_refl _) (by decide))]
  | succ n ih =>
    intro i fu hi hfu
    obtain ⟨fu, rfl⟩ : ∃ z, fu = z + 1 := ⟨fu - 1, by omega⟩
    rw [f_X14_forget_L6, if_neg (show ¬ (136 : Int32) ≤ nI i from nI_ge (b := 136) (by omega) (by decide)), q_ix_nI (by omega) (by decide), Option.bind_some, q_fil_s, nI_1]
    exact ih (i + 1) fu (by omega) (by omega)
