/-! MATH: the used places of the loft, on both sides -/
theorem m_sm_or {p q r : Nat → Prop} [DecidablePred p] [DecidablePred q] [DecidablePred r] {f : Nat → Int32} : ∀ {n : Nat}, (∀ i, i < n → (r i ↔ p i ∨ q i)) → (∀ i, i < n → p i → q i → False) → m_sm r f n = m_sm p f n + m_sm q f n := by
  intro n
  induction n with
  | zero => intro _ _; rfl
  | succ n ih =>
    intro h1 h2
    have h3 := h1 n (by omega)
    have h4 := h2 n (by omega)
    rw [m_sm, m_sm, m_sm, ih (fun i hi => h1 i (by omega)) (fun i hi => h2 i (by omega))]
    by_cases hp : p n
    · have hq : ¬ q n := fun hq => h4 hp hq
      rw [if_pos hp, if_neg hq, if_pos (h3.mpr (Or.inl hp)), Int32.add_zero, Int32.add_assoc, Int32.add_assoc, Int32.add_comm (f n)]
    · by_cases hq : q n
      · rw [if_neg hp, if_pos hq, if_pos (h3.mpr (Or.inr hq)), Int32.add_zero, Int32.add_assoc]
      · rw [if_neg hp, if_neg hq, if_neg (fun h => (h3.mp h).elim hp hq), Int32.add_zero, Int32.add_zero, Int32.add_zero]
theorem m_sm_none {p : Nat → Prop} [DecidablePred p] {f : Nat → Int32} : ∀ {n : Nat}, (∀ i, i < n → ¬ p i) → m_sm p f n = 0 := by
  intro n
  induction n with
  | zero => intro _; rfl
  | succ n ih =>
    intro h
    rw [m_sm, if_neg (h n (by omega)), ih (fun i hi => h i (by omega))]; rfl
theorem m_sm_seg {p s : Nat} : ∀ (n : Nat), m_sm (fun q => p ≤ q ∧ q < p + s) (fun _ => 1) n = nI (min n (p + s) - p) := by
  intro n
  induction n with
  | zero => rw [m_sm, Nat.zero_min, Nat.zero_sub]; rfl
  | succ n ih =>
    rw [m_sm, ih]
    by_cases h : p ≤ n ∧ n < p + s
    · rw [if_pos h, nI_1]; congr 1; omega
    · rw [if_neg h, Int32.add_zero]; congr 1; omega
theorem m_usedCL {m : Nat} {lo lr : Nat → Int32} (h64 : m ≤ 64) (hm : lo 1 = nI m) : ∀ (n i fu : Nat), i + n = m → n < fu → f_X5_usedCount_L4 lo lr fu (m_sm (fun q => ¬ lr q = -1) (fun _ => 1) i) (nI i) = some (m_sm (fun q => ¬ lr q = -1) (fun _ => 1) m) := by
  intro n
  induction n with
  | zero =>
    intro i fu hi hfu
    obtain ⟨fu, rfl⟩ : ∃ z, fu = z + 1 := ⟨fu - 1, by omega⟩
    obtain rfl : i = m := by omega
    rw [f_X5_usedCount_L4, hm, if_pos (nI_le (by omega) (by omega))]
  | succ n ih =>
    intro i fu hi hfu
    obtain ⟨fu, rfl⟩ : ∃ z, fu = z + 1 := ⟨fu - 1, by omega⟩
    have e := ih (i + 1) fu (by omega) (by omega)
    rw [m_sm] at e
    rw [f_X5_usedCount_L4, hm, if_neg (nI_ge (by omega) (by omega)), m_loftAt hm h64 (by omega), Option.bind_some, nI_1]
    by_cases h : lr i = -1
    · rw [if_pos h]; rw [if_neg (fun h2 => h2 h), Int32.add_zero] at e; exact e
    · rw [if_neg h]; rw [if_pos h] at e; exact e
theorem m_usedC {m : Nat} {lo lr : Nat → Int32} (h64 : m ≤ 64) (hm : lo 1 = nI m) : f_X5_usedCount lo lr = some (m_sm (fun q => ¬ lr q = -1) (fun _ => 1) m) := by
  unfold f_X5_usedCount
  have e := m_usedCL h64 hm (lr := lr) m 0 4096 (by omega) (by omega)
  rw [m_sm, show nI 0 = 0 from rfl] at e
  rw [e]; rfl
/-- cells that name one of the first i bales -/
theorem m_cells {m : Nat} {lr sw sp ss : Nat → Int32} (h : m_Lf m lr sw sp ss) : ∀ i, i ≤ 136 → m_sm (fun q => ∃ b, b < i ∧ lr q = nI b) (fun _ => 1) m = m_sm (fun b => sw b = 2) ss i := by
  classical
  obtain ⟨h64, h1, h2⟩ := h
  intro i
  induction i with
  | zero => intro _; rw [m_sm_none (fun q hq h => by obtain ⟨b, hb, -⟩ := h; omega), m_sm]
  | succ i ih =>
    intro hi
    rw [m_sm, ← ih (by omega)]
    rw [m_sm_or (p := fun q => ∃ b, b < i ∧ lr q = nI b) (q := fun q => lr q = nI i) (fun q hq => ⟨fun ⟨b, hb, e⟩ => by
      by_cases hbi : b = i
      · subst hbi; exact Or.inr e
      · exact Or.inl ⟨b, by omega, e⟩, fun h => by
      rcases h with ⟨b, hb, e⟩ | e
      · exact ⟨b, by omega, e⟩
      · exact ⟨i, by omega, e⟩⟩) (fun q hq ⟨b, hb, e⟩ e2 => by
      have := (nI_eq (by omega) (by omega)).mp (e.symm.trans e2)
      omega)]
    congr 1
    by_cases hw : sw i = 2
    · obtain ⟨p, s, b1, b2, b3, b4, b5⟩ := h1 i (by omega) hw
      rw [if_pos hw, b2, m_sm_congr (q := fun q => p ≤ q ∧ q < p + s) (g := fun _ => 1) (fun q hq => ⟨fun e => ?_, fun hh => b5 q hh.1 hh.2⟩) (fun _ _ _ => rfl), m_sm_seg]
      · congr 1; omega
      · rcases h2 q hq with hh | ⟨c, a1, a2, a3, p', s', a4, a5, a6, a7, a8⟩
        · exact absurd (e.symm.trans hh) (m_nI_m1 (by omega))
        · obtain rfl : c = i := (nI_eq (by omega) (by omega)).mp (a3.symm.trans e)
          have e1 := (nI_eq (by omega) (by omega)).mp (b1.symm.trans a4)
          have e2 := (nI_eq (by omega) (by omega)).mp (b2.symm.trans a5)
          omega
    · rw [if_neg hw]
      refine m_sm_none (fun q hq e => ?_)
      rcases h2 q hq with hh | ⟨c, a1, a2, a3, -⟩
      · exact absurd (e.symm.trans hh) (m_nI_m1 (by omega))
      · obtain rfl : c = i := (nI_eq (by omega) (by omega)).mp (a3.symm.trans e)
        exact hw a2
theorem m_usedLoft {m : Nat} {lo lr sw sp ss : Nat → Int32} (h : m_Lf m lr sw sp ss) (hl : lo 1 = nI m) : ∃ x, f_X5_usedCount lo lr = some x ∧ f_X14_used sw ss 2 = some x := by
  classical
  refine ⟨m_sm (fun b => sw b = 2) ss 136, ?_, m_used⟩
  rw [m_usedC h.1 hl, ← m_cells h 136 (by omega)]
  congr 1
  refine m_sm_congr (fun q hq => ⟨fun e => ?_, fun ⟨b, hb, e⟩ => by rw [e]; exact m_nI_m1 (by omega)⟩) (fun _ _ _ => rfl)
  rcases h.2.2 q hq with hh | ⟨b, a1, a2, a3, -⟩
  · exact absurd hh e
  · exact ⟨b, by omega, a3⟩
