/-! THE LAW'S GAPS ARE THE CLASS'S -/
section ZGAPS
variable {e : Nat → Bool} {m w : Nat} {lr lo : Nat → Int32}
theorem z_gs_keep {want : Int32} (hw : ¬ want = 0) : ∀ n p b best, 0 ≤ best → z_gs e m want n p b best = best := by
  intro n
  induction n with
  | zero => intro p b best _; rfl
  | succ n ih =>
    intro p b best hb
    unfold z_gs
    by_cases hc : (decide (p < m) && e p) = true
    · rw [if_pos hc]; exact ih _ _ _ hb
    · rw [if_neg hc]
      have : z_nb want best (nI p - nI b) (nI b) = best := by unfold z_nb; rw [if_neg hw, if_pos hb]
      rw [this]
      exact ih _ _ _ hb
/-- up to p all is empty from b on, and there it ends -/
theorem z_e_run {p b : Nat} (hp : p ≤ m) (he : p < m → ¬ lr p = -1) (hq : ∀ q, b ≤ q → q < p → lr q = -1) : ∀ q, b ≤ q → q ≤ p → m_e m lr q = p - q := by
  intro q h1 h2
  have hpe : m_e m lr p = 0 := by
    by_cases h : p < m
    · exact m_e_n (he h)
    · exact m_e_ge (by omega)
  have := m_e_run (m := m) (lr := lr) (p - q) q (by omega) (fun j hj => hq (q + j) (by omega) (by omega))
  rw [show q + (p - q) = p by omega, hpe] at this
  omega
theorem z_gs_g (he : ∀ q, q < m → (e q = true ↔ lr q = -1)) (hw : 0 < w) (hw2 : w < 65536) (hm : m < 65536) : ∀ n p b, p + n = m + 1 → b ≤ p → (p = m + 1 → b = m + 1) → (∀ q, b ≤ q → q < p → q < m ∧ lr q = -1) → z_gs e m (nI w) n p b (-1) = m_o (m_g m lr w (m + 1 - b) b) := by
  have hw0 : ¬ nI w = 0 := fun h => by
    have := (nI_eq (b := 0) (by omega) (by omega)).mp h
    omega
  intro n
  induction n with
  | zero =>
    intro p b hp hb hpb hq
    rw [m_g_none _ _ (by omega)]
    rfl
  | succ n ih =>
    intro p b hp hb hpb hq
    unfold z_gs
    by_cases hc : (decide (p < m) && e p) = true
    · rw [if_pos hc]
      simp only [Bool.and_eq_true, decide_eq_true_eq] at hc
      refine ih (p + 1) b (by omega) (by omega) (by omega) (fun q h1 h2 => ?_)
      by_cases hqp : q = p
      · subst hqp; exact ⟨hc.1, (he q hc.1).mp hc.2⟩
      · exact hq q h1 (by omega)
    · rw [if_neg hc]
      have hne : p < m → ¬ lr p = -1 := fun h h2 => hc (by
        rw [Bool.and_eq_true, decide_eq_true_eq]
        exact ⟨h, (he p h).mpr h2⟩)
      have hrun := z_e_run (lr := lr) (show p ≤ m by omega) hne (fun q h1 h2 => (hq q h1 h2).2)
      have hnb : z_nb (nI w) (-1) (nI p - nI b) (nI b) = if nI (p - b) < nI w then -1 else nI b := by
        unfold z_nb
        rw [if_neg hw0, if_neg (by decide), pk_sub hb]
      rw [hnb]
      by_cases hlt : p - b < w
      · rw [if_pos (nI_lt hlt (by omega))]
        rw [ih (p + 1) (p + 1) (by omega) (Nat.le_refl _) (fun h => h) (fun q h1 h2 => by omega)]
        by_cases hpm : p < m
        · have := m_g_steps (m := m) (lr := lr) (s := w) (p + 1 - b) b (by omega) (fun j hj => by
            rw [hrun (b + j) (by omega) (by omega)]
            omega)
          rw [show b + (p + 1 - b) = p + 1 by omega] at this
          rw [this]
        · rw [m_g_none _ _ (by omega), m_g_none _ _ (by omega)]
      · rw [if_neg (fun h => by
          have := Int32.not_lt.mpr (nI_le (show w ≤ p - b by omega) (by omega))
          exact this h)]
        rw [z_gs_keep hw0 n _ _ _ (nI_pos' (by omega))]
        rw [show m + 1 - b = (m - b) + 1 by omega, m_g, if_neg (by omega), hrun b (Nat.le_refl _) hb, if_neg hlt]
        rfl
theorem z_gap_g (he : ∀ q, q < m → (e q = true ↔ lr q = -1)) (hw : 0 < w) (hw2 : w < 65536) (hm : m < 65536) : z_gap e m (nI w) = m_o (m_g m lr w (m + 1) 0) := by
  unfold z_gap
  rw [if_neg (show ¬ nI w ≤ 0 from nI_ge (b := w) (a := 0) hw (by omega))]
  exact z_gs_g he hw hw2 hm (m + 1) 0 0 (by omega) (Nat.le_refl _) (by omega) (fun q _ h => absurd h (Nat.not_lt_zero _))
/-- the class finds the law's gap -/
theorem z_gapFor (he : ∀ q, q < m → (e q = true ↔ lr q = -1)) (h64 : m ≤ 64) (hl : lo 1 = nI m) (hw : 0 < w) (hw2 : w < 65536) : f_X5_gapFor lo lr (nI w) = some (z_gap e m (nI w)) := by
  rw [z_gap_g he hw hw2 (by omega)]
  unfold f_X5_gapFor
  rw [show (0 : Int32) = nI 0 from rfl, m_gapCL h64 hl hw (by omega) m 0 0 4096 (by omega) (by omega) (by omega) (by omega) (fun j h1 h2 => by omega), Option.bind_some]
  cases hg : m_g m lr w (m + 1) 0 with
  | none => simp only [Nat.sub_zero, hg]; rfl
  | some p =>
    simp only [Nat.sub_zero, hg]
    rw [if_neg (by decide), nI_1, show p + w - 1 + 1 = p + w by omega, ← nI_add, Int32.add_sub_cancel]; rfl
theorem z_M_run {p : Nat} (hp : p ≤ m) (he : p < m → ¬ lr p = -1) : ∀ k q, q + k = p → (∀ r, q ≤ r → r < p → lr r = -1) → m_M m lr (m - q) q = max k (m_M m lr (m - (p + 1)) (p + 1)) := by
  intro k
  induction k with
  | zero =>
    intro q hq hr
    obtain rfl : q = p := by omega
    by_cases h : q < m
    · rw [show m - q = (m - (q + 1)) + 1 by omega, m_M, m_e_n (he h)]
    · rw [show m - q = 0 by omega, show m - (q + 1) = 0 by omega]
      rfl
  | succ k ih =>
    intro q hq hr
    have h1 := z_e_run (lr := lr) hp he hr q (Nat.le_refl _) (by omega)
    rw [show m - q = (m - (q + 1)) + 1 by omega, m_M, ih (q + 1) (by omega) (fun r h1 h2 => hr r (by omega) h2), h1]
    omega
theorem z_gs_M (he : ∀ q, q < m → (e q = true ↔ lr q = -1)) (hm : m < 65536) : ∀ n p b best, p + n = m + 1 → b ≤ p → best < 65536 → (p = m + 1 → b = m + 1) → (∀ q, b ≤ q → q < p → q < m ∧ lr q = -1) → z_gs e m 0 n p b (nI best) = nI (max best (m_M m lr (m - b) b)) := by
  intro n
  induction n with
  | zero =>
    intro p b best hp hb h16 hpb hq
    rw [show m - b = 0 by omega]
    show nI best = nI (max best 0)
    rw [Nat.max_zero]
  | succ n ih =>
    intro p b best hp hb h16 hpb hq
    unfold z_gs
    by_cases hc : (decide (p < m) && e p) = true
    · rw [if_pos hc]
      simp only [Bool.and_eq_true, decide_eq_true_eq] at hc
      refine ih (p + 1) b best (by omega) (by omega) h16 (by omega) (fun q h1 h2 => ?_)
      by_cases hqp : q = p
      · subst hqp; exact ⟨hc.1, (he q hc.1).mp hc.2⟩
      · exact hq q h1 (by omega)
    · rw [if_neg hc]
      have hne : p < m → ¬ lr p = -1 := fun h h2 => hc (by
        rw [Bool.and_eq_true, decide_eq_true_eq]
        exact ⟨h, (he p h).mpr h2⟩)
      have hM := z_M_run (lr := lr) (show p ≤ m by omega) hne (p - b) b (by omega) (fun r h1 h2 => (hq r h1 h2).2)
      have hnb : z_nb 0 (nI best) (nI p - nI b) (nI b) = nI (max best (p - b)) := by
        unfold z_nb
        rw [if_pos rfl, pk_sub hb]
        by_cases hle : p - b ≤ best
        · rw [if_pos (nI_le hle (by omega)), Nat.max_eq_left hle]
        · rw [if_neg (nI_ge (by omega) (by omega)), Nat.max_eq_right (by omega)]
      rw [hnb, ih (p + 1) (p + 1) _ (by omega) (Nat.le_refl _) (by omega) (fun h => h) (fun q h1 h2 => by omega), hM]
      congr 1
      omega
theorem z_widest (he : ∀ q, q < m → (e q = true ↔ lr q = -1)) (h64 : m ≤ 64) (hl : lo 1 = nI m) : f_X5_widestGap lo lr = some (z_gap e m 0) := by
  have h1 : z_gap e m 0 = nI (m_M m lr m 0) := by
    unfold z_gap
    rw [if_pos (by decide)]
    have := z_gs_M (lr := lr) he (by omega) (m + 1) 0 0 0 (by omega) (Nat.le_refl _) (by omega) (by omega) (fun q _ h => absurd h (Nat.not_lt_zero _))
    rw [Nat.sub_zero, Nat.zero_max] at this
    exact this
  rw [h1]
  unfold f_X5_widestGap
  rw [show (0 : Int32) = nI 0 from rfl, m_widestL h64 hl m 0 0 0 4096 (by omega) (by omega) (by omega) (by omega), Option.bind_some]
  congr 2
  cases m with
  | zero => rw [m_e_ge (by omega), m_M]; omega
  | succ n => rw [m_M]; omega
end ZGAPS
