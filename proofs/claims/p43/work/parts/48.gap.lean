/-! MATH: where a bale fits into the loft, on both sides -/
theorem m_gapCL {m s : Nat} {lo lr : Nat → Int32} (h64 : m ≤ 64) (hm : lo 1 = nI m) (hs : 1 ≤ s) (hs2 : s < 2 ^ 30) : ∀ (n i run fu : Nat), i + n = m → n < fu → run < s → run ≤ i → (∀ j, i - run ≤ j → j < i → lr j = -1) → f_X5_gapFor_L4 lo lr (nI s) fu (nI run) (nI i) = some (match m_g m lr s (m + 1 - (i - run)) (i - run) with | none => (0, 0, 0) | some p => (1, nI s, nI (p + s - 1))) := by
  intro n
  induction n with
  | zero =>
    intro i run fu hi hfu hr hri hc
    obtain ⟨fu, rfl⟩ : ∃ z, fu = z + 1 := ⟨fu - 1, by omega⟩
    rw [f_X5_gapFor_L4, hm, if_pos (nI_le (by omega) (by omega)), m_g_none _ _ (by omega)]
  | succ n ih =>
    intro i run fu hi hfu hr hri hc
    obtain ⟨fu, rfl⟩ : ∃ z, fu = z + 1 := ⟨fu - 1, by omega⟩
    rw [f_X5_gapFor_L4, hm, if_neg (nI_ge (by omega) (by omega)), if_neg (show ¬ (64 : Int32) ≤ nI i from nI_ge (b := 64) (by omega) (by decide)), q_ix_nI (by omega) (by decide), Option.bind_some, nI_1, nI_1]
    have hrun : m_e m lr (i - run) = run + m_e m lr i := by
      have := m_e_run (m := m) (lr := lr) run (i - run) (by omega) (fun j hj => hc _ (by omega) (by omega))
      rw [this, show i - run + run = i by omega]
    by_cases e : lr i = -1
    · rw [if_neg (fun h2 => h2 e)]
      by_cases h2 : run + 1 < s
      · rw [if_pos (nI_lt h2 (by omega)), ih (i + 1) (run + 1) fu (by omega) (by omega) h2 (by omega) (fun j h3 h4 => by
          by_cases hji : j = i
          · subst hji; exact e
          · exact hc j (by omega) (by omega)), show i + 1 - (run + 1) = i - run by omega]
      · rw [if_neg (m_nlt (by omega) (by omega)), show m + 1 - (i - run) = (m - (i - run)) + 1 by omega, m_g, if_neg (by omega), if_neg (by rw [hrun, m_e_y (by omega) e]; omega)]
        simp only [show run + 1 = s by omega, show i - run + s - 1 = i by omega]
    · rw [if_pos e, if_pos (show (0 : Int32) < nI s from nI_lt (a := 0) (by omega) (by omega)), show (0 : Int32) = nI 0 from rfl, ih (i + 1) 0 fu (by omega) (by omega) (by omega) (by omega) (fun j h3 h4 => by omega)]
      have h0 := m_e_n (m := m) e
      have hst := m_g_steps (m := m) (lr := lr) (s := s) (run + 1) (i - run) (by omega) (fun j hj => by
        have := m_e_run (m := m) (lr := lr) (run - j) (i - run + j) (by omega) (fun x hx => hc _ (by omega) (by omega))
        rw [this, show i - run + j + (run - j) = i by omega, h0]
        omega)
      rw [hst, show i - run + (run + 1) = i + 1 - 0 by omega]; rfl
def m_o : Option Nat → Int32
  | none => -1
  | some p => nI p
theorem m_gapFor {m s : Nat} {lo lr sw sp ss mp : Nat → Int32} (h : m_Lf m lr sw sp ss) (hm : mp 2 = nI m) (hl : lo 1 = nI m) (hs : 1 ≤ s) (hs2 : s < 2 ^ 30) : ∃ g, f_X5_gapFor lo lr (nI s) = some (m_o g) ∧ f_X14_gapFor mp sw sp ss (nI s) = some (m_o g) ∧ ∀ p, g = some p → p + s ≤ m ∧ ∀ j, j < s → lr (p + j) = -1 := by
  have h64 := h.1
  refine ⟨m_g m lr s (m + 1) 0, ?_, ?_, fun p hp => m_g_some _ _ _ hp⟩
  · unfold f_X5_gapFor
    rw [show (0 : Int32) = nI 0 from rfl, m_gapCL h64 hl hs hs2 m 0 0 4096 (by omega) (by omega) (by omega) (by omega) (fun j h1 h2 => by omega), Option.bind_some]
    cases hg : m_g m lr s (m + 1) 0 with
    | none => simp only [Nat.sub_zero, hg]; rfl
    | some p =>
      simp only [Nat.sub_zero, hg]
      rw [if_neg (by decide), nI_1, show p + s - 1 + 1 = p + s by omega, ← nI_add, Int32.add_sub_cancel]; rfl
  · unfold f_X14_gapFor
    rw [show (0 : Int32) = nI 0 from rfl, m_gapRL h hm hs hs2 (m + 1) 0 4096 (by omega) (by omega), Option.bind_some]
    cases hg : m_g m lr s (m + 1) 0 with
    | none => simp only [Nat.sub_zero, hg]; rfl
    | some p =>
      simp only [Nat.sub_zero, hg]
      rw [if_neg (by decide)]; rfl
