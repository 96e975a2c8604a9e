/-! MATH: bytes of the tape, runs of them, on both sides -/
def m_iL (x : Int32) : Bool := decide (¬ x < 97) && decide (¬ 122 < x)
def m_iD (x : Int32) : Bool := decide (¬ x < 48) && decide (¬ 57 < x)
theorem m_isLC (x : Int32) : f_X11_isLetter x = some (m_iL x) := by
  unfold f_X11_isLetter m_iL
  by_cases h1 : x < 97
  · rw [if_pos h1]; simp [h1]
  · rw [if_neg h1]
    by_cases h2 : 122 < x
    · rw [if_pos h2]; simp [h2]
    · rw [if_neg h2]; simp [h1, h2]
theorem m_isLR (x : Int32) : f_X15_isLetter x = some (m_iL x) := m_isLC x
theorem m_isDC (x : Int32) : f_X11_isDigit x = some (m_iD x) := by
  unfold f_X11_isDigit m_iD
  by_cases h1 : x < 48
  · rw [if_pos h1]; simp [h1]
  · rw [if_neg h1]
    by_cases h2 : 57 < x
    · rw [if_pos h2]; simp [h2]
    · rw [if_neg h2]; simp [h1, h2]
theorem m_isDR (x : Int32) : f_X15_isDigit x = some (m_iD x) := m_isDC x
/-- what the class sees of a byte -/
def m_c (y : Nat) : Int32 := (nI y).toInt8.toInt32
theorem m_c_tab : ∀ y, y < 256 → m_iL (m_c y) = m_iL (nI y) ∧ m_iD (m_c y) = m_iD (nI y) ∧ (decide (m_c y = 32) = decide (nI y = 32)) ∧ (decide (m_c y = 10) = decide (nI y = 10)) ∧ (m_iL (nI y) = true ∨ m_iD (nI y) = true → m_c y = nI y) := by decide +kernel
/-- the byte at a place, as a number; 256 beyond the end -/
def m_ch (mt : m_Rr) (z j : Nat) : Nat := if j < z then (mt j).toNatClampNeg else 256
theorem m_ch_lt {mt : m_Rr} {z j : Nat} (h : j < z) {b : Nat} (hb : mt j = nI b) (hb2 : b < 256) : m_ch mt z j = b := by
  unfold m_ch
  rw [if_pos h, hb, nI_clamp (by omega)]
/-- the values that each side sees -/
def m_vC (mt : m_Rr) (z j : Nat) : Int32 := if m_ch mt z j = 256 then 0 else m_c (m_ch mt z j)
def m_vR (mt : m_Rr) (z j : Nat) : Int32 := if m_ch mt z j = 256 then -1 else nI (m_ch mt z j)
theorem m_ch_le {tp mt : m_Rr} (hB : m_By tp mt) {z : Nat} (hz : z ≤ 2000) (j : Nat) : (j < z ∧ m_ch mt z j < 256 ∧ mt j = nI (m_ch mt z j) ∧ tp j = m_c (m_ch mt z j)) ∨ (z ≤ j ∧ m_ch mt z j = 256) := by
  by_cases h : j < z
  · obtain ⟨h1, b, b1, b2⟩ := hB j (by omega)
    have e := m_ch_lt h b2 b1
    exact Or.inl ⟨h, by omega, by rw [e]; exact b2, by rw [e, h1, b2]; rfl⟩
  · exact Or.inr ⟨by omega, if_neg h⟩
theorem m_atC {tp mt tk : m_Rr} (hB : m_By tp mt) {z : Nat} (hz : z ≤ 2000) (hk : tk 5 = nI z) {j : Nat} (hj : j < 2 ^ 31) : f_X11_at tp tk (nI j) = some (m_vC mt z j) := by
  unfold f_X11_at m_vC
  rw [if_neg (nI_pos hj), hk]
  rcases m_ch_le hB hz j with ⟨h1, h2, h3, h4⟩ | ⟨h1, h2⟩
  · rw [if_neg (nI_ge h1 (by omega)), if_neg (show ¬ (2000 : Int32) ≤ nI j from nI_ge (b := 2000) (by omega) (by decide)), q_ix_nI (by omega) (by decide), Option.bind_some, if_neg (by omega), h4]
  · rw [if_pos (nI_le h1 hj), if_pos h2]
theorem m_atR {tp mt md : m_Rr} (hB : m_By tp mt) {z : Nat} (hz : z ≤ 2000) (hk : md 2 = nI z) {j : Nat} (hj : j < 2 ^ 31) : f_X15_byteOf md mt (nI j) = some (m_vR mt z j) := by
  unfold f_X15_byteOf m_vR
  rw [hk]
  rcases m_ch_le hB hz j with ⟨h1, h2, h3, h4⟩ | ⟨h1, h2⟩
  · rw [if_neg (nI_ge h1 (by omega)), q_ix_nI (by omega) (by decide), Option.bind_some, if_neg (by omega), h3]
  · rw [if_pos (nI_le h1 hj), if_pos h2]
/-- both sides see the same kind of byte -/
theorem m_vk {tp mt : m_Rr} (hB : m_By tp mt) {z : Nat} (hz : z ≤ 2000) (j : Nat) : m_iL (m_vC mt z j) = m_iL (m_vR mt z j) ∧ m_iD (m_vC mt z j) = m_iD (m_vR mt z j) ∧ (m_vC mt z j = 32 ↔ m_vR mt z j = 32) ∧ (m_vC mt z j = 10 ↔ m_vR mt z j = 10) ∧ (m_iL (m_vR mt z j) = true ∨ m_iD (m_vR mt z j) = true → m_vC mt z j = m_vR mt z j ∧ j < z) := by
  unfold m_vC m_vR
  rcases m_ch_le hB hz j with ⟨h1, h2, h3, h4⟩ | ⟨h1, h2⟩
  · rw [if_neg (by omega), if_neg (by omega)]
    obtain ⟨a1, a2, a3, a4, a5⟩ := m_c_tab _ h2
    exact ⟨a1, a2, decide_eq_decide.mp a3, decide_eq_decide.mp a4, fun h => ⟨a5 h, h1⟩⟩
  · rw [if_pos h2, if_pos h2]
    refine ⟨by decide, by decide, by decide, by decide, fun h => ?_⟩
    rcases h with h | h <;> exact absurd h (by decide)
/-- the end of a run of bytes of a kind -/
def m_run (P : Nat → Bool) : Nat → Nat → Nat
  | 0, e => e
  | n + 1, e => if P e = true then m_run P n (e + 1) else e
theorem m_run_ge {P : Nat → Bool} : ∀ {n e : Nat}, e ≤ m_run P n e ∧ m_run P n e ≤ e + n := by
  intro n
  induction n with
  | zero => intro e; exact ⟨Nat.le_refl _, Nat.le_refl _⟩
  | succ n ih =>
    intro e
    rw [m_run]
    have := @ih (e + 1)
    split <;> omega
theorem m_run_in {P : Nat → Bool} : ∀ {n e j : Nat}, e ≤ j → j < m_run P n e → P j = true := by
  intro n
  induction n with
  | zero => intro e j h1 h2; rw [m_run] at h2; omega
  | succ n ih =>
    intro e j h1 h2
    rw [m_run] at h2
    by_cases h : P e = true
    · rw [if_pos h] at h2
      by_cases hj : j = e
      · rw [hj]; exact h
      · exact ih (by omega) h2
    · rw [if_neg h] at h2; omega
/-- where a run ends, it does -/
theorem m_run_end {P : Nat → Bool} {z : Nat} (hP : ∀ j, z ≤ j → P j = false) : ∀ {n e : Nat}, e + n = z → P (m_run P n e) = false := by
  intro n
  induction n with
  | zero => intro e h; rw [m_run]; exact hP e (by omega)
  | succ n ih =>
    intro e h
    rw [m_run]
    by_cases hp : P e = true
    · rw [if_pos hp]; exact ih (by omega)
    · rw [if_neg hp]; exact Bool.eq_false_iff.mpr hp
section
variable {tp mt tk md : m_Rr} {z : Nat}
def m_pB (mt : m_Rr) (z j : Nat) : Bool := decide (m_vR mt z j = 32) || decide (m_vR mt z j = 10)
def m_pW (mt : m_Rr) (z j : Nat) : Bool := m_iL (m_vR mt z j) || m_iD (m_vR mt z j)
def m_pD (mt : m_Rr) (z j : Nat) : Bool := m_iD (m_vR mt z j)
theorem m_vR_z {mt : m_Rr} {z j : Nat} (h : z ≤ j) : m_vR mt z j = -1 := by unfold m_vR m_ch; rw [if_neg (show ¬ j < z by omega), if_pos rfl]
theorem m_pB_z {mt : m_Rr} {z j : Nat} (h : z ≤ j) : m_pB mt z j = false := by unfold m_pB; rw [m_vR_z h]; decide
theorem m_pW_z {mt : m_Rr} {z j : Nat} (h : z ≤ j) : m_pW mt z j = false := by unfold m_pW; rw [m_vR_z h]; decide
theorem m_pD_z {mt : m_Rr} {z j : Nat} (h : z ≤ j) : m_pD mt z j = false := by unfold m_pD; rw [m_vR_z h]; decide
theorem m_blankC (hB : m_By tp mt) (hz : z ≤ 2000) (hk : tk 5 = nI z) : ∀ (n e fu : Nat), e + n = z → n < fu → f_X11_behindBlanks_L2 tp tk fu (nI e) = some (nI (m_run (m_pB mt z) n e)) := by
  intro n
  induction n with
  | zero =>
    intro e fu he hfu
    obtain ⟨fu, rfl⟩ : ∃ z, fu = z + 1 := ⟨fu - 1, by omega⟩
    rw [f_X11_behindBlanks_L2, hk, if_pos (nI_le (by omega) (by omega))]; rfl
  | succ n ih =>
    intro e fu he hfu
    obtain ⟨fu, rfl⟩ : ∃ z, fu = z + 1 := ⟨fu - 1, by omega⟩
    obtain ⟨-, -, a3, a4, -⟩ := m_vk hB hz e
    rw [f_X11_behindBlanks_L2, hk, if_neg (nI_ge (by omega) (by omega)), m_atC hB hz hk (by omega), Option.bind_some, Option.bind_some, nI_1, ih (e + 1) fu (by omega) (by omega), m_run]
    unfold m_pB
    by_cases h1 : m_vC mt z e = 32
    · rw [if_pos h1, if_pos (by simp [a3.mp h1])]
    · rw [if_neg h1]
      have g1 : ¬ m_vR mt z e = 32 := fun h => h1 (a3.mpr h)
      by_cases h2 : m_vC mt z e = 10
      · rw [if_neg (fun h => h h2), if_pos (by simp [a4.mp h2])]
      · have g2 : ¬ m_vR mt z e = 10 := fun h => h2 (a4.mpr h)
        rw [if_pos h2, if_neg (by simp [g1, g2])]
theorem m_blankR (hB : m_By tp mt) (hz : z ≤ 2000) (hk : md 2 = nI z) : ∀ (n e fu : Nat), e + n = z → n < fu → f_X15_cut_L7 md mt fu (nI e) = some (nI (m_run (m_pB mt z) n e)) := by
  intro n
  induction n with
  | zero =>
    intro e fu he hfu
    obtain ⟨fu, rfl⟩ : ∃ z, fu = z + 1 := ⟨fu - 1, by omega⟩
    rw [f_X15_cut_L7, m_atR hB hz hk (by omega), Option.bind_some, m_vR_z (by omega), if_neg (by decide), Option.bind_some, if_pos (by decide)]; rfl
  | succ n ih =>
    intro e fu he hfu
    obtain ⟨fu, rfl⟩ : ∃ z, fu = z + 1 := ⟨fu - 1, by omega⟩
    rw [f_X15_cut_L7, m_atR hB hz hk (by omega), Option.bind_some, Option.bind_some, nI_1, ih (e + 1) fu (by omega) (by omega), m_run]
    unfold m_pB
    by_cases g1 : m_vR mt z e = 32
    · rw [if_pos g1, if_pos (by simp [g1])]
    · rw [if_neg g1]
      by_cases g2 : m_vR mt z e = 10
      · rw [if_neg (fun h => h g2), if_pos (by simp [g2])]
      · rw [if_pos g2, if_neg (by simp [g1, g2])]
theorem m_wordC (hB : m_By tp mt) (hz : z ≤ 2000) (hk : tk 5 = nI z) : ∀ (n e fu : Nat), e + n = z → n < fu → f_X11_wordLength_L2 tp tk fu (nI e) = some (nI (m_run (m_pW mt z) n e)) := by
  intro n
  induction n with
  | zero =>
    intro e fu he hfu
    obtain ⟨fu, rfl⟩ : ∃ z, fu = z + 1 := ⟨fu - 1, by omega⟩
    rw [f_X11_wordLength_L2, hk, if_pos (nI_le (by omega) (by omega))]; rfl
  | succ n ih =>
    intro e fu he hfu
    obtain ⟨fu, rfl⟩ : ∃ z, fu = z + 1 := ⟨fu - 1, by omega⟩
    obtain ⟨a1, a2, -⟩ := m_vk hB hz e
    rw [f_X11_wordLength_L2, hk, if_neg (nI_ge (by omega) (by omega)), m_atC hB hz hk (by omega), Option.bind_some, m_isLC, Option.bind_some, Option.bind_some, m_isDC, Option.bind_some, nI_1, ih (e + 1) fu (by omega) (by omega), m_run, a1, a2]
    unfold m_pW
    cases h1 : m_iL (m_vR mt z e) <;> cases h2 : m_iD (m_vR mt z e) <;> rfl
theorem m_digitC (hB : m_By tp mt) (hz : z ≤ 2000) (hk : tk 5 = nI z) : ∀ (n e fu : Nat), e + n = z → n < fu → f_X11_digitCount_L2 tp tk fu (nI e) = some (nI (m_run (m_pD mt z) n e)) := by
  intro n
  induction n with
  | zero =>
    intro e fu he hfu
    obtain ⟨fu, rfl⟩ : ∃ z, fu = z + 1 := ⟨fu - 1, by omega⟩
    rw [f_X11_digitCount_L2, hk, if_pos (nI_le (by omega) (by omega))]; rfl
  | succ n ih =>
    intro e fu he hfu
    obtain ⟨fu, rfl⟩ : ∃ z, fu = z + 1 := ⟨fu - 1, by omega⟩
    obtain ⟨a1, a2, -⟩ := m_vk hB hz e
    rw [f_X11_digitCount_L2, hk, if_neg (nI_ge (by omega) (by omega)), m_atC hB hz hk (by omega), Option.bind_some, m_isDC, Option.bind_some, nI_1, ih (e + 1) fu (by omega) (by omega), m_run, a2]
    unfold m_pD
    cases h2 : m_iD (m_vR mt z e) <;> rfl
theorem m_runR (hB : m_By tp mt) (hz : z ≤ 2000) (hk : md 2 = nI z) {v : Int32} : ∀ (n e fu : Nat), e + n = z → n < fu → f_X15_kindAt_L19 md mt v fu (nI e) = some (nI (m_run (if m_iL v = true then m_pW mt z else m_pD mt z) n e)) := by
  intro n
  induction n with
  | zero =>
    intro e fu he hfu
    obtain ⟨fu, rfl⟩ : ∃ z, fu = z + 1 := ⟨fu - 1, by omega⟩
    rw [f_X15_kindAt_L19, m_atR hB hz hk (by omega), Option.bind_some, m_isDR, Option.bind_some, m_vR_z (by omega), if_neg (show ¬ ¬ q_bz (m_iD (-1)) = 0 by decide), m_isLR, Option.bind_some, Option.bind_some, m_isLR, Option.bind_some]
    cases m_iL v <;> rfl
  | succ n ih =>
    intro e fu he hfu
    obtain ⟨fu, rfl⟩ : ∃ z, fu = z + 1 := ⟨fu - 1, by omega⟩
    rw [f_X15_kindAt_L19, m_atR hB hz hk (by omega), Option.bind_some, m_isDR, Option.bind_some, m_isLR, Option.bind_some, Option.bind_some, m_isLR, Option.bind_some, nI_1, ih (e + 1) fu (by omega) (by omega), m_run]
    cases hv : m_iL v with
    | false =>
      rw [if_neg (show ¬ false = true by decide)]
      unfold m_pD
      cases h2 : m_iD (m_vR mt z e) <;> rfl
    | true =>
      rw [if_pos rfl]
      unfold m_pW
      cases h1 : m_iL (m_vR mt z e) <;> cases h2 : m_iD (m_vR mt z e) <;> rfl
end
