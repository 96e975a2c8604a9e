/-! MATH: gaps of the loft, on both sides -/
def m_e (m : Nat) (lr : Nat → Int32) (q : Nat) : Nat := m_E m lr (m - q + 1) q
theorem m_e_ge {m : Nat} {lr : Nat → Int32} {q : Nat} (h : m ≤ q) : m_e m lr q = 0 := by unfold m_e; rw [m_E, if_pos h]
theorem m_e_y {m : Nat} {lr : Nat → Int32} {q : Nat} (h : q < m) (he : lr q = -1) : m_e m lr q = m_e m lr (q + 1) + 1 := by
  unfold m_e
  rw [m_E, if_neg (show ¬ m ≤ q by omega), if_pos he, show m - q = m - (q + 1) + 1 by omega]
theorem m_e_n {m : Nat} {lr : Nat → Int32} {q : Nat} (he : ¬ lr q = -1) : m_e m lr q = 0 := by
  unfold m_e
  rw [m_E, if_neg he]; split <;> rfl
theorem m_e_le {m : Nat} {lr : Nat → Int32} : ∀ (n q : Nat), q + n = m → m_e m lr q ≤ n := by
  intro n
  induction n with
  | zero => intro q h; rw [m_e_ge (by omega)]; omega
  | succ n ih =>
    intro q h
    by_cases he : lr q = -1
    · rw [m_e_y (by omega) he]; have := ih (q + 1) (by omega); omega
    · rw [m_e_n he]; omega
theorem m_e_cell {m : Nat} {lr : Nat → Int32} : ∀ (j q : Nat), j < m_e m lr q → lr (q + j) = -1 := by
  intro j
  induction j with
  | zero =>
    intro q h
    by_cases he : lr q = -1
    · exact he
    · rw [m_e_n he] at h; omega
  | succ j ih =>
    intro q h
    by_cases hq : m ≤ q
    · rw [m_e_ge hq] at h; omega
    · by_cases he : lr q = -1
      · rw [m_e_y (by omega) he] at h
        have := ih (q + 1) (by omega)
        rw [← this]; congr 1; omega
      · rw [m_e_n he] at h; omega
theorem m_e_run {m : Nat} {lr : Nat → Int32} : ∀ (k q : Nat), q + k ≤ m → (∀ j, j < k → lr (q + j) = -1) → m_e m lr q = k + m_e m lr (q + k) := by
  intro k
  induction k with
  | zero => intro q h hj; simp
  | succ k ih =>
    intro q h hj
    have h0 : lr q = -1 := hj 0 (by omega)
    rw [m_e_y (show q < m by omega) h0, ih (q + 1) (by omega) (fun j hk => by have := hj (j + 1) (by omega); rw [← this]; congr 1; omega), show q + 1 + k = q + (k + 1) by omega]
    omega
def m_M (m : Nat) (lr : Nat → Int32) : Nat → Nat → Nat
  | 0, _ => 0
  | f + 1, q => max (m_e m lr q) (m_M m lr f (q + 1))
theorem m_max {a b : Nat} (ha : a < 2 ^ 31) (hb : b < 2 ^ 31) : q_max (nI a) (nI b) = nI (max a b) := by
  unfold q_max
  by_cases h : a < b
  · rw [if_pos (nI_lt h hb), Nat.max_eq_right (by omega)]
  · rw [if_neg (m_nlt (by omega) ha), Nat.max_eq_left (by omega)]
theorem m_widestL {m : Nat} {lo lr : Nat → Int32} (h64 : m ≤ 64) (hm : lo 1 = nI m) : ∀ (n i best run fu : Nat), i + n = m → n < fu → run ≤ best → best ≤ i → f_X5_widestGap_L6 lo lr fu (nI best) (nI run) (nI i) = some (nI (max best (max (run + m_e m lr i) (m_M m lr n i)))) := by
  intro n
  induction n with
  | zero =>
    intro i best run fu hi hfu hr hb
    obtain ⟨fu, rfl⟩ : ∃ z, fu = z + 1 := ⟨fu - 1, by omega⟩
    rw [f_X5_widestGap_L6, hm, if_pos (nI_le (by omega) (by omega)), m_e_ge (by omega), m_M]
    congr 2
    omega
  | succ n ih =>
    intro i best run fu hi hfu hr hb
    obtain ⟨fu, rfl⟩ : ∃ z, fu = z + 1 := ⟨fu - 1, by omega⟩
    rw [f_X5_widestGap_L6, hm, if_neg (nI_ge (by omega) (by omega)), m_loftAt hm h64 (by omega), Option.bind_some, nI_1, nI_1, m_M]
    by_cases e : lr i = -1
    · rw [if_neg (fun h2 => h2 e), m_max (by omega) (by omega), ih (i + 1) _ _ fu (by omega) (by omega) (by omega) (by omega), m_e_y (by omega) e]
      congr 2
      omega
    · rw [if_pos e, show (0 : Int32) = nI 0 from rfl, m_max (by omega) (by omega), ih (i + 1) _ _ fu (by omega) (by omega) (by omega) (by omega), m_e_n e]
      congr 2
      have : m_e m lr (i + 1) ≤ m_M m lr n (i + 1) := by
        cases n with
        | zero => rw [m_e_ge (by omega)]; omega
        | succ n => rw [m_M]; omega
      omega
theorem m_longestL {m : Nat} {lr sw sp ss mp : Nat → Int32} (h : m_Lf m lr sw sp ss) (hm : mp 2 = nI m) : ∀ (n i best fu : Nat), i + n = m → n < fu → best ≤ m → f_X14_longestGap_L4 mp sw sp ss fu (nI best) (nI i) = some (nI (max best (m_M m lr n i))) := by
  have h64 := h.1
  intro n
  induction n with
  | zero =>
    intro i best fu hi hfu hb
    obtain ⟨fu, rfl⟩ : ∃ z, fu = z + 1 := ⟨fu - 1, by omega⟩
    rw [f_X14_longestGap_L4, hm, if_pos (nI_le (by omega) (by omega)), m_M, Nat.max_zero]
  | succ n ih =>
    intro i best fu hi hfu hb
    obtain ⟨fu, rfl⟩ : ∃ z, fu = z + 1 := ⟨fu - 1, by omega⟩
    have hle := m_e_le (m := m) (lr := lr) (m - i) i (by omega)
    rw [f_X14_longestGap_L4, hm, if_neg (nI_ge (by omega) (by omega)), m_empty h hm (by omega), Option.bind_some, show m_E m lr (m - i + 1) i = m_e m lr i from rfl, m_max (by omega) (by omega), nI_1, ih (i + 1) _ fu (by omega) (by omega) (by omega), m_M]
    congr 2
    omega
theorem m_longest {m : Nat} {lo lr sw sp ss mp : Nat → Int32} (h : m_Lf m lr sw sp ss) (hm : mp 2 = nI m) (hl : lo 1 = nI m) : ∃ x, f_X5_widestGap lo lr = some x ∧ f_X14_longestGap mp sw sp ss = some x := by
  have h64 := h.1
  refine ⟨nI (m_M m lr m 0), ?_, ?_⟩
  · unfold f_X5_widestGap
    rw [show (0 : Int32) = nI 0 from rfl, m_widestL h64 hl m 0 0 0 4096 (by omega) (by omega) (by omega) (by omega), Option.bind_some]
    congr 2
    cases m with
    | zero => rw [m_e_ge (by omega), m_M]; omega
    | succ n => rw [m_M]; omega
  · unfold f_X14_longestGap
    rw [show (0 : Int32) = nI 0 from rfl, m_longestL h hm m 0 0 4096 (by omega) (by omega) (by omega), Option.bind_some, Nat.zero_max]
/-- where the first gap of s places begins -/
def m_g (m : Nat) (lr : Nat → Int32) (s : Nat) : Nat → Nat → Option Nat
  | 0, _ => none
  | f + 1, q => if m < q + s then none else if m_e m lr q < s then m_g m lr s f (q + 1) else some q
theorem m_g_none {m : Nat} {lr : Nat → Int32} {s : Nat} : ∀ (f q : Nat), m < q + s → m_g m lr s f q = none := by
  intro f q h
  cases f with
  | zero => rfl
  | succ f => rw [m_g, if_pos h]
theorem m_g_step {m : Nat} {lr : Nat → Int32} {s q : Nat} (hq : q < m) (h : m_e m lr q < s) : m_g m lr s (m + 1 - q) q = m_g m lr s (m + 1 - (q + 1)) (q + 1) := by
  rw [show m + 1 - q = (m + 1 - (q + 1)) + 1 by omega, m_g]
  by_cases h1 : m < q + s
  · rw [if_pos h1, m_g_none _ _ (by omega)]
  · rw [if_neg h1, if_pos h]
theorem m_g_steps {m : Nat} {lr : Nat → Int32} {s : Nat} : ∀ (k q : Nat), q + k ≤ m → (∀ j, j < k → m_e m lr (q + j) < s) → m_g m lr s (m + 1 - q) q = m_g m lr s (m + 1 - (q + k)) (q + k) := by
  intro k
  induction k with
  | zero => intro q h hj; rfl
  | succ k ih =>
    intro q h hj
    have h0 : m_e m lr q < s := hj 0 (by omega)
    rw [m_g_step (show q < m by omega) h0, ih (q + 1) (by omega) (fun j hk => by have := hj (j + 1) (by omega); rw [show q + 1 + j = q + (j + 1) by omega]; exact this), show q + 1 + k = q + (k + 1) by omega]
theorem m_g_some {m : Nat} {lr : Nat → Int32} {s : Nat} : ∀ (f q p : Nat), m_g m lr s f q = some p → p + s ≤ m ∧ ∀ j, j < s → lr (p + j) = -1 := by
  intro f
  induction f with
  | zero => intro q p h; cases h
  | succ f ih =>
    intro q p h
    rw [m_g] at h
    by_cases h1 : m < q + s
    · rw [if_pos h1] at h; cases h
    · rw [if_neg h1] at h
      by_cases h2 : m_e m lr q < s
      · rw [if_pos h2] at h; exact ih _ _ h
      · rw [if_neg h2] at h
        cases h
        exact ⟨by omega, fun j hj => m_e_cell (m := m) j _ (by omega)⟩
theorem m_gapRL {m s : Nat} {lr sw sp ss mp : Nat → Int32} (h : m_Lf m lr sw sp ss) (hm : mp 2 = nI m) (hs : 1 ≤ s) (hs2 : s < 2 ^ 30) : ∀ (n q fu : Nat), q + n = m + 1 → n < fu → f_X14_gapFor_L2 mp sw sp ss (nI s) fu (nI q) = some (match m_g m lr s (m + 1 - q) q with | none => (0, 0) | some p => (1, nI p)) := by
  have h64 := h.1
  intro n
  induction n with
  | zero =>
    intro q fu hi hfu
    obtain ⟨fu, rfl⟩ : ∃ z, fu = z + 1 := ⟨fu - 1, by omega⟩
    rw [f_X14_gapFor_L2, hm, nI_add, if_pos (nI_lt (by omega) (by omega)), m_g_none _ _ (by omega)]
  | succ n ih =>
    intro q fu hi hfu
    obtain ⟨fu, rfl⟩ : ∃ z, fu = z + 1 := ⟨fu - 1, by omega⟩
    rw [f_X14_gapFor_L2, hm, nI_add]
    by_cases h1 : m < q + s
    · rw [if_pos (nI_lt h1 (by omega)), m_g_none _ _ h1]
    · have hle := m_e_le (m := m) (lr := lr) (m - q) q (by omega)
      rw [if_neg (m_nlt (by omega) (by omega)), m_empty h hm (by omega), Option.bind_some, show m_E m lr (m - q + 1) q = m_e m lr q from rfl]
      by_cases h2 : m_e m lr q < s
      · rw [if_pos (nI_lt h2 (by omega)), nI_1, m_g_step (by omega) h2]
        exact ih (q + 1) fu (by omega) (by omega)
      · rw [if_neg (m_nlt (by omega) (by omega)), show m + 1 - q = (m - q) + 1 by omega, m_g, if_neg h1, if_neg h2]
