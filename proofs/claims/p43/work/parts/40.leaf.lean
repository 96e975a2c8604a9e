/-! MATH: the printed functions at numbers that are in range -/
theorem m_place {f : Nat → Int32} {b : Nat} (h : b < 128) : f_X1_place f (nI b) = some (f b) := by
  unfold f_X1_place
  rw [if_neg (nI_pos (by omega)), if_neg (show ¬ (128 : Int32) ≤ nI b from nI_ge h (by decide)), q_ix_nI h (by decide)]; rfl
theorem m_size {f : Nat → Int32} {b : Nat} (h : b < 128) : f_X1_size f (nI b) = some (f b) := by
  unfold f_X1_size
  rw [if_neg (nI_pos (by omega)), if_neg (show ¬ (128 : Int32) ≤ nI b from nI_ge h (by decide)), q_ix_nI h (by decide)]; rfl
theorem m_age {f : Nat → Int32} {b : Nat} (h : b < 128) : f_X1_age f (nI b) = some (f b) := by
  unfold f_X1_age
  rw [if_neg (nI_pos (by omega)), if_neg (show ¬ (128 : Int32) ≤ nI b from nI_ge h (by decide)), q_ix_nI h (by decide)]; rfl
theorem m_ropes {f : Nat → Int32} {b : Nat} (h : b < 128) : f_X1_ropes f (nI b) = some (f b) := by
  unfold f_X1_ropes
  rw [if_neg (nI_pos (by omega)), if_neg (show ¬ (128 : Int32) ≤ nI b from nI_ge h (by decide)), q_ix_nI h (by decide)]; rfl
theorem m_place1 {f : Nat → Int32} : f_X1_place f (-1) = some 0 := by unfold f_X1_place; rw [if_pos (by decide)]
theorem m_size1 {f : Nat → Int32} : f_X1_size f (-1) = some 0 := by unfold f_X1_size; rw [if_pos (by decide)]
theorem m_age1 {f : Nat → Int32} : f_X1_age f (-1) = some 0 := by unfold f_X1_age; rw [if_pos (by decide)]
theorem m_ropes1 {f : Nat → Int32} : f_X1_ropes f (-1) = some 0 := by unfold f_X1_ropes; rw [if_pos (by decide)]
theorem m_half {f : Nat → Int32} {b : Nat} (h : b < 128) : f_X1_liesInHalf f (nI b) = some (decide (f b = 1)) := by
  unfold f_X1_liesInHalf
  rw [if_neg (nI_pos (by omega)), if_neg (show ¬ (128 : Int32) ≤ nI b from nI_ge h (by decide)), q_ix_nI h (by decide)]
  simp only [Option.bind_some]
  by_cases h1 : f b = 1 <;> simp [h1]
theorem m_half1 {f : Nat → Int32} : f_X1_liesInHalf f (-1) = some false := by unfold f_X1_liesInHalf; rw [if_pos (by decide)]
theorem m_loft {f : Nat → Int32} {b : Nat} (h : b < 128) : f_X1_liesInLoft f (nI b) = some (decide (f b = 2)) := by
  unfold f_X1_liesInLoft
  rw [if_neg (nI_pos (by omega)), if_neg (show ¬ (128 : Int32) ≤ nI b from nI_ge h (by decide)), q_ix_nI h (by decide)]
  simp only [Option.bind_some]
  by_cases h1 : f b = 2 <;> simp [h1]
theorem m_isGone {f : Nat → Int32} {b : Nat} (h : b < 128) : f_X1_isGone f (nI b) = some (decide (f b = 0)) := by
  unfold f_X1_isGone
  rw [if_neg (nI_pos (by omega)), if_neg (show ¬ (128 : Int32) ≤ nI b from nI_ge h (by decide)), q_ix_nI h (by decide)]
  simp only [Option.bind_some]
  by_cases h1 : f b = 0 <;> simp [h1]
theorem m_isGone1 {f : Nat → Int32} : f_X1_isGone f (-1) = some true := by unfold f_X1_isGone; rw [if_pos (by decide)]
theorem m_hasRope {rc : Nat → Int32} {b r k : Nat} (h : b < 128) (hr : r < 2147483648) (hk : rc b = nI k) (hk3 : k ≤ 3) : f_X1_hasRope rc (nI b) (nI r) = some (decide (r < k)) := by
  unfold f_X1_hasRope
  rw [if_neg (nI_pos (by omega)), if_neg (show ¬ (128 : Int32) ≤ nI b from nI_ge h (by decide)), if_neg (nI_pos hr)]
  by_cases h3 : 3 ≤ r
  · rw [if_pos (show (3 : Int32) ≤ nI r from nI_le h3 hr)]
    have : ¬ r < k := by omega
    simp [this]
  · rw [if_neg (show ¬ (3 : Int32) ≤ nI r from nI_ge (b := 3) (by omega) (by decide)), q_ix_nI h (by decide)]
    simp only [Option.bind_some]
    rw [hk]
    by_cases h4 : r < k
    · rw [if_neg (nI_ge h4 (by omega))]; simp [h4]
    · rw [if_pos (nI_le (by omega) hr)]; simp [h4]
theorem m_bz (p : Bool) : q_bz p = 0 ↔ p = false := by cases p <;> decide
theorem m_lead {rc ld : Nat → Int32} {b r k : Nat} (h : b < 128) (hr : r < 2147483648) (hk : rc b = nI k) (hk3 : k ≤ 3) : f_X1_lead rc ld (nI b) (nI r) = some (if r < k then ld (b * 3 + r) else -1) := by
  unfold f_X1_lead
  rw [m_hasRope h hr hk hk3, Option.bind_some]
  by_cases h4 : r < k
  · rw [if_neg (by rw [m_bz]; simp [h4]), show nI b * (3 : Int32) + nI r = nI (b * 3 + r) from by rw [show (3 : Int32) = nI 3 from rfl, pk_mul, nI_add], q_ix_nI (by omega) (by decide), Option.bind_some, if_pos h4]
  · rw [if_pos (by rw [m_bz]; simp [h4]), if_neg h4]
theorem m_setLead {rc ld : Nat → Int32} {b r k : Nat} {x : Int32} (h : b < 128) (hr : r < 2147483648) (hk : rc b = nI k) (hk3 : k ≤ 3) : f_X1_setLead rc ld (nI b) (nI r) x = some (if r < k then q_up ld (b * 3 + r) x else ld) := by
  unfold f_X1_setLead
  rw [m_hasRope h hr hk hk3, Option.bind_some]
  by_cases h4 : r < k
  · rw [if_neg (by rw [m_bz]; simp [h4]), show nI b * (3 : Int32) + nI r = nI (b * 3 + r) from by rw [show (3 : Int32) = nI 3 from rfl, pk_mul, nI_add], q_ix_nI (by omega) (by decide), Option.bind_some, if_pos h4]
  · rw [if_pos (by rw [m_bz]; simp [h4]), if_neg h4]
theorem m_held {hk : Nat → Int32} {i : Nat} (h : i < 6) : f_X2_held hk (nI i) = some (hk i) := by
  unfold f_X2_held
  rw [if_neg (nI_pos (by omega)), if_neg (show ¬ (6 : Int32) ≤ nI i from nI_ge h (by decide)), q_ix_nI h (by decide)]; rfl
theorem m_up_s {α : Type} {f : Nat → α} {j : Nat} {x : α} : q_up f j x j = x := by unfold q_up; rw [q_beqS, cond_true]
theorem m_up_n {α : Type} {f : Nat → α} {i j : Nat} {x : α} (h : i ≠ j) : q_up f j x i = f i := by unfold q_up; rw [q_beqN h, cond_false]
theorem m_up_of {α : Type} (f : Nat → α) (i j : Nat) (x : α) : q_up f j x i = if i = j then x else f i := by
  by_cases h : i = j
  · subst h; rw [m_up_s, if_pos rfl]
  · rw [m_up_n h, if_neg h]
/-- the line: bales one behind the other, each once -/
theorem m_ladd1 {li nr nd : Nat → Int32} {x : Int32} : f_X4_add li nr nd (-1) x = some (false, li, nr, nd) := by unfold f_X4_add; rw [if_pos (by decide)]
theorem m_ladd {li nr nd : Nat → Int32} {b c : Nat} {x : Int32} (h : b < 128) (hc : li 2 = nI c) (hc2 : c < 128) : f_X4_add li nr nd (nI b) x = some (if nd b = -1 then (true, q_up li 2 (nI (c + 1)), q_up nr c (nI b), q_up nd b x) else (false, li, nr, nd)) := by
  unfold f_X4_add
  rw [if_neg (nI_pos (by omega)), if_neg (show ¬ (128 : Int32) ≤ nI b from nI_ge h (by decide)), hc, if_neg (show ¬ nI c < 0 from nI_pos (by omega)), if_pos (show nI c < (128 : Int32) from nI_lt hc2 (by decide)), q_ix_nI h (by decide), Option.bind_some]
  by_cases h1 : nd b = -1
  · rw [if_pos h1, if_pos h1, Option.bind_some, q_ix_nI hc2 (by decide), Option.bind_some, nI_1]
  · rw [if_neg h1, if_neg h1]
theorem m_lhas {nd : Nat → Int32} {b : Nat} (h : b < 128) : f_X4_has nd (nI b) = some (decide (¬ nd b = -1)) := by
  unfold f_X4_has
  rw [if_neg (nI_pos (by omega)), if_neg (show ¬ (128 : Int32) ≤ nI b from nI_ge h (by decide)), q_ix_nI h (by decide), Option.bind_some]
  by_cases h1 : nd b = -1 <;> simp [h1]
theorem m_lhas1 {nd : Nat → Int32} : f_X4_has nd (-1) = some false := by unfold f_X4_has; rw [if_pos (by decide)]
theorem m_lat {li nr : Nat → Int32} {i c : Nat} (hc : li 2 = nI c) (hc2 : c ≤ 128) (h : i < c) : f_X4_at li nr (nI i) = some (nr i) := by
  unfold f_X4_at
  rw [if_neg (nI_pos (by omega)), hc, if_neg (nI_ge h (by omega)), if_neg (show ¬ (128 : Int32) ≤ nI i from nI_ge (b := 128) (by omega) (by decide)), q_ix_nI (by omega) (by decide)]; rfl
theorem m_loftAt {lo lr : Nat → Int32} {p n : Nat} (hn : lo 1 = nI n) (hn2 : n ≤ 64) (h : p < n) : f_X5_at lo lr (nI p) = some (lr p) := by
  unfold f_X5_at
  rw [if_neg (nI_pos (by omega)), hn, if_neg (nI_ge h (by omega)), if_neg (show ¬ (64 : Int32) ≤ nI p from nI_ge (b := 64) (by omega) (by decide)), q_ix_nI (by omega) (by decide)]; rfl
/-- the reference: coming to a bale -/
theorem m_come1 {md mq mi : Nat → Int32} : f_X14_comeTo md mq mi (-1) = some (md, mq, mi) := by unfold f_X14_comeTo; rw [if_pos rfl]
theorem m_nI_m1 {b : Nat} (h : b < 2147483648) : ¬ nI b = -1 := fun e => nI_pos h (by rw [e]; decide)
theorem m_come {md mq mi : Nat → Int32} {b c : Nat} (h : b < 136) (hc : md 16 = nI c) (hc2 : c < 136) : f_X14_comeTo md mq mi (nI b) = some (if mi b = 0 then (q_up md 16 (nI (c + 1)), q_up mq c (nI b), q_up mi b 1) else (md, mq, mi)) := by
  unfold f_X14_comeTo
  rw [if_neg (m_nI_m1 (by omega)), q_ix_nI h (by decide), Option.bind_some]
  by_cases h1 : mi b = 0
  · rw [if_pos h1, Option.bind_some, hc, q_ix_nI hc2 (by decide), Option.bind_some, if_pos h1, nI_1]
  · rw [if_neg h1, if_neg h1]
