/-! MATH: the loft, on both sides -/
theorem m_nlt {a b : Nat} (h : b ≤ a) (ha : a < 2 ^ 31) : ¬ nI a < nI b := Int32.not_lt.mpr (nI_le h ha)
/-- every cell of a bale of the loft names it, and a cell that names a bale is one of its cells -/
def m_Lf (n : Nat) (lr sw sp ss : Nat → Int32) : Prop :=
  n ≤ 64 ∧ (∀ b, b < 136 → sw b = 2 → ∃ p s, sp b = nI p ∧ ss b = nI s ∧ 1 ≤ s ∧ p + s ≤ n ∧ ∀ q, p ≤ q → q < p + s → lr q = nI b) ∧ (∀ q, q < n → lr q = -1 ∨ ∃ b, b < 128 ∧ sw b = 2 ∧ lr q = nI b ∧ ∃ p s, sp b = nI p ∧ ss b = nI s ∧ p + s ≤ n ∧ p ≤ q ∧ q < p + s)
theorem m_atL {m : Nat} {lr sw sp ss : Nat → Int32} (h : m_Lf m lr sw sp ss) {q : Nat} (hq : q < m) : ∀ (n i fu : Nat), i + n = 136 → n < fu → (∀ b, b < i → lr q ≠ nI b) → f_X14_at_L2 sw sp ss 2 (nI q) fu (nI i) = some (if lr q = -1 then (0, 0) else (1, lr q)) := by
  obtain ⟨h64, h1, h2⟩ := h
  intro n
  induction n with
  | zero =>
    intro i fu hi hfu hno
    obtain rfl : i = 136 := by omega
    obtain ⟨fu, rfl⟩ : ∃ z, fu = z + 1 := ⟨fu - 1, by omega⟩
    rw [f_X14_at_L2, if_pos (show (136 : Int32) ≤ nI 136 from nI_le (Nat.le_refl _) (by decide))]
    rcases h2 q hq with h | ⟨b, a1, a2, a3, a4⟩
    · rw [if_pos h]
    · exact absurd a3 (hno b (by omega))
  | succ n ih =>
    intro i fu hi hfu hno
    obtain ⟨fu, rfl⟩ : ∃ z, fu = z + 1 := ⟨fu - 1, by omega⟩
    rw [f_X14_at_L2, if_neg (show ¬ (136 : Int32) ≤ nI i from nI_ge (b := 136) (by omega) (by decide)), q_ix_nI (by omega) (by decide), Option.bind_some, Option.bind_some, Option.bind_some, Option.bind_some, nI_1]
    have next : (sw i = 2 → ∀ p s, sp i = nI p → ss i = nI s → p + s ≤ m → ¬ (p ≤ q ∧ q < p + s)) → f_X14_at_L2 sw sp ss 2 (nI q) fu (nI (i + 1)) = some (if lr q = -1 then (0, 0) else (1, lr q)) := fun hn => ih (i + 1) fu (by omega) (by omega) (fun b hb => by
      by_cases hbi : b = i
      · subst hbi
        intro e
        rcases h2 q hq with h | ⟨c, a1, a2, a3, p, s, a4, a5, a6, a7, a8⟩
        · exact m_nI_m1 (by omega) (e.symm.trans h)
        · obtain rfl : c = b := (nI_eq (by omega) (by omega)).mp (a3.symm.trans e)
          exact hn a2 p s a4 a5 a6 ⟨a7, a8⟩
      · exact hno b (by omega))
    by_cases hw : sw i = 2
    · obtain ⟨p, s, b1, b2, b3, b4, b5⟩ := h1 i (by omega) hw
      rw [if_neg (fun h2 => h2 hw), b1, b2, nI_add]
      by_cases hqp : q < p
      · rw [if_pos (nI_lt hqp (by omega))]
        refine next (fun _ p' s' c1 c2 c3 => ?_)
        have := (nI_eq (by omega) (by omega)).mp (b1.symm.trans c1)
        omega
      · rw [if_neg (m_nlt (by omega) (by omega))]
        by_cases hqs : p + s ≤ q
        · rw [if_pos (nI_le hqs (by omega))]
          refine next (fun _ p' s' c1 c2 c3 => ?_)
          have e1 := (nI_eq (by omega) (by omega)).mp (b1.symm.trans c1)
          have e2 := (nI_eq (by omega) (by omega)).mp (b2.symm.trans c2)
          omega
        · rw [if_neg (nI_ge (by omega) (by omega))]
          have e := b5 q (by omega) (by omega)
          rw [e, if_neg (m_nI_m1 (by omega))]
    · rw [if_pos hw]
      exact next (fun h => absurd h hw)
theorem m_at {m : Nat} {lr sw sp ss : Nat → Int32} (h : m_Lf m lr sw sp ss) {q : Nat} (hq : q < m) : f_X14_at sw sp ss 2 (nI q) = some (lr q) := by
  unfold f_X14_at
  rw [show (0 : Int32) = nI 0 from rfl, m_atL h hq 136 0 4096 (by omega) (by omega) (fun b hb => by omega), Option.bind_some]
  by_cases e : lr q = -1
  · rw [if_pos e, if_pos rfl, e]
  · rw [if_neg e, if_neg (by simp)]
/-- how many cells are empty from q on -/
def m_E (n : Nat) (lr : Nat → Int32) : Nat → Nat → Nat
  | 0, _ => 0
  | f + 1, q => if n ≤ q then 0 else if lr q = -1 then m_E n lr f (q + 1) + 1 else 0
theorem m_emptyL {m : Nat} {lr sw sp ss mp : Nat → Int32} (h : m_Lf m lr sw sp ss) (hm : mp 2 = nI m) (q : Nat) : ∀ (n k fu : Nat), q + k + n = m → n < fu → f_X14_emptyFrom_L2 mp sw sp ss (nI q) fu (nI k) = some (nI (k + m_E m lr (n + 1) (q + k))) := by
  have h64 := h.1
  intro n
  induction n with
  | zero =>
    intro k fu hi hfu
    obtain ⟨fu, rfl⟩ : ∃ z, fu = z + 1 := ⟨fu - 1, by omega⟩
    rw [f_X14_emptyFrom_L2, hm, nI_add, if_pos (nI_le (by omega) (by omega)), m_E, if_pos (by omega)]; rfl
  | succ n ih =>
    intro k fu hi hfu
    obtain ⟨fu, rfl⟩ : ∃ z, fu = z + 1 := ⟨fu - 1, by omega⟩
    rw [f_X14_emptyFrom_L2, hm, nI_add, if_neg (nI_ge (by omega) (by omega)), m_at h (by omega), Option.bind_some, m_E, if_neg (show ¬ m ≤ q + k by omega)]
    by_cases e : lr (q + k) = -1
    · rw [if_neg (fun h2 => h2 e), if_pos e, nI_1, ih (k + 1) fu (by omega) (by omega)]
      congr 2
      rw [← Nat.add_assoc]; omega
    · rw [if_pos e, if_neg e]; rfl
theorem m_empty {m : Nat} {lr sw sp ss mp : Nat → Int32} (h : m_Lf m lr sw sp ss) (hm : mp 2 = nI m) {q : Nat} (hq : q ≤ m) : f_X14_emptyFrom mp sw sp ss (nI q) = some (nI (m_E m lr (m - q + 1) q)) := by
  have h64 := h.1
  unfold f_X14_emptyFrom
  rw [show (0 : Int32) = nI 0 from rfl, m_emptyL h hm q (m - q) 0 4096 (by omega) (by omega), Option.bind_some]
  simp only [Nat.add_zero, Nat.zero_add]
