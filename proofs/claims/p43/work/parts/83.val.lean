/-! MATH: a value: which way the reference goes -/
section
variable {tp mt tk ts tl tv kn mf mm hn : m_Rr} {z n : Nat} {tg : Nat → Option Nat} {V0 : m_V} {W : m_Rr × m_Rr × m_Rr × m_Rr × m_Rr} {Z : m_Z} {H k i0 a0 u t dp : Nat} {X : m_PX} {Y : m_PY}
theorem m_kdR : ∀ s, s < 49 → s ≠ 2 → ¬ (20 ≤ s ∧ s ≤ 24) → (m_kd s < 16 ∨ ¬ m_kd s < 16 ∧ 20 < m_kd s) := by decide
theorem m_kdR2 : ∀ s, s < 49 → (20 ≤ s ∧ s ≤ 24) → ¬ m_kd s < 16 ∧ ¬ 20 < m_kd s ∧ s ≠ 2 := by decide
theorem m_iv {rV rS : m_TyR} {md mr mp pc pw : m_Rr} (h9 : md 9 = nI t) (ht : t < 401) {s : Nat} (hs : s < 49) (hk : kn t = m_kd s) (h2 : s ≠ 2) (h20 : ¬ (20 ≤ s ∧ s ≤ 24)) : f_X15_isValue rV rS md mt kn mf mm mr mp pc pw =
    if s = 25 ∨ s = 26 then (f_X15_put mp pc (m_kd s)).bind fun r7 => (f_X15_eat (q_up md 9 (nI (t + 1))) kn 13).bind fun r8 => if q_bz r8.1 = 0 then some (false, r8.2, mr, r7.1, r7.2, pw) else (f_X15_isName r8.2 kn mr r7.1 r7.2 pw 5).bind fun r10 => if q_bz r10.1 = 0 then some (false, r10.2.1, r10.2.2.1, r10.2.2.2.1, r10.2.2.2.2.1, r10.2.2.2.2.2) else some (true, r10.2.1, r10.2.2.1, r10.2.2.2.1, r10.2.2.2.2.1, r10.2.2.2.2.2)
    else if s = 41 then (f_X15_isDeeper md).bind fun r23 => if q_bz r23.1 = 0 then some (false, r23.2, mr, mp, pc, pw) else (rV r23.2 mt kn mf mm mr mp pc pw).bind fun r25 => if ¬ q_bz r25.1 = 0 then (f_X15_put r25.2.2.2.1 r25.2.2.2.2.1 33).bind fun r27 => some (true, q_up r25.2.1 10 (r25.2.1 10 - 1), r25.2.2.1, r27.1, r27.2, r25.2.2.2.2.2) else some (false, r25.2.1, r25.2.2.1, r25.2.2.2.1, r25.2.2.2.2.1, r25.2.2.2.2.2)
    else if s = 32 ∨ s = 33 then (f_X15_isInside rS (q_up md 9 (nI (t + 1))) mt kn mf mm mr mp pc pw (m_kd s) true).bind fun r18 => some (r18.1, r18.2.1, r18.2.2.1, r18.2.2.2.1, r18.2.2.2.2.1, r18.2.2.2.2.2)
    else (f_X15_isInside rS md mt kn mf mm mr mp pc pw (m_kd s) false).bind fun r18 => some (r18.1, r18.2.1, r18.2.2.1, r18.2.2.2.1, r18.2.2.2.2.1, r18.2.2.2.2.2) := by
  have i41 : f_X15_is md kn 41 = some (decide (s = 2)) := m_isP (x := 2) h9 ht hs hk (by decide)
  have i5 : f_X15_is md kn 5 = some (decide (s = 25)) := m_isP (x := 25) h9 ht hs hk (by decide)
  have i21 : f_X15_is md kn 21 = some (decide (s = 26)) := m_isP (x := 26) h9 ht hs hk (by decide)
  have i45 : f_X15_isSign md kn 45 = some (decide (s = 41)) := m_isSgP (x := 41) h9 ht hs hk (by decide) (by decide)
  have i27 : f_X15_eat md kn 27 = some (if s = 32 then (true, q_up md 9 (nI (t + 1))) else (false, md)) := m_eatP (x := 32) h9 ht hs hk (by decide)
  have i28 : f_X15_eat md kn 28 = some (if s = 33 then (true, q_up md 9 (nI (t + 1))) else (false, md)) := m_eatP (x := 33) h9 ht hs hk (by decide)
  unfold f_X15_isValue
  rw [h9, q_ix_nI ht (by decide), Option.bind_some, i41, Option.bind_some, if_pos (m_bzF h2), hk]
  rcases m_kdR s hs h2 h20 with h16 | ⟨h16, h17⟩
  rw [if_pos h16]
  rotate_left
  rw [if_neg h16, if_pos h17]
  all_goals
    rw [i5, Option.bind_some]
    by_cases e25 : s = 25
    · rw [if_pos (m_bzT e25), if_pos (Or.inl e25), nI_1]
    · rw [if_neg (fun z => z (m_bzF e25)), i21, Option.bind_some]
      by_cases e26 : s = 26
      · rw [if_neg (m_bzT e26), if_pos (Or.inr e26), nI_1]
      · rw [if_pos (m_bzF e26), if_neg (show ¬ (s = 25 ∨ s = 26) by omega), i45, Option.bind_some]
        by_cases e41 : s = 41
        · rw [if_neg (m_bzT e41), if_pos e41]
        · rw [if_pos (m_bzF e41), if_neg e41, i27, Option.bind_some]
          by_cases e32 : s = 32
          · rw [if_pos e32, if_pos (show s = 32 ∨ s = 33 from Or.inl e32), if_pos (show ¬ q_bz true = 0 by decide)]
          · rw [if_neg e32, if_neg (fun z => z (show q_bz false = 0 from rfl)), i28, Option.bind_some]
            by_cases e33 : s = 33
            · rw [if_pos e33, if_pos (show s = 32 ∨ s = 33 from Or.inr e33), if_neg (show ¬ q_bz true = 0 by decide)]
            · rw [if_neg e33, if_neg (show ¬ (s = 32 ∨ s = 33) by omega), if_pos (show q_bz false = 0 from rfl)]
theorem m_swF1 : ∀ s, s < 49 → s ∈ [2, 20, 21, 22, 23, 24, 25, 26, 41, 34, 32, 33] ∨ ¬ q_sw s ∈ ([9, 10, 11, 12, 13, 14, 15, 16, 17, 18, 19, 20] : List Int32) := by decide
theorem m_swF {s : Nat} (hs : s < 49) (c1 : s ≠ 2) (c2 : ¬ (20 ≤ s ∧ s ≤ 26)) (c3 : s ≠ 41) (c4 : s ≠ 34) (c5 : s ≠ 32) (c6 : s ≠ 33) {x : Int32} (hx : x ∈ ([9, 10, 11, 12, 13, 14, 15, 16, 17, 18, 19, 20] : List Int32)) : q_sw s ≠ x := by
  rcases m_swF1 s hs with h | h
  · simp only [List.mem_cons, List.not_mem_nil, or_false] at h
    omega
  · exact fun e => h (by rw [e]; exact hx)
/-- the class: no value begins so -/
theorem m_cvF {rV rS : m_TyC} {qn qu rd : m_Rr} {qd : Nat → Option Nat} {x1 : Int32} {s : Nat} (hg : f_X7_sign rd tk tg = some s) (hs : s < 49) (c1 : s ≠ 2) (c2 : ¬ (20 ≤ s ∧ s ≤ 26)) (c3 : s ≠ 41) (c4 : s ≠ 34) (c5 : s ≠ 32) (c6 : s ≠ 33) : f_X7_readValue rV rS qn qu rd hn tk tv qd tg x1 = (f_X7_fail rd).bind fun r => some (qn, qu, r, qd) := by
  have d : ∀ {x : Int32}, x ∈ ([9, 10, 11, 12, 13, 14, 15, 16, 17, 18, 19, 20] : List Int32) → q_sw s ≠ x := fun hx => m_swF hs c1 c2 c3 c4 c5 c6 hx
  unfold f_X7_readValue
  rw [hg, Option.bind_some, m_e49 hs, Option.bind_some, q_ix_nI hs (by decide), Option.bind_some, if_neg (d (x := 9) (by decide)), if_neg (d (x := 10) (by decide)), if_neg (d (x := 11) (by decide)), if_neg (d (x := 12) (by decide)), if_neg (d (x := 13) (by decide)), if_neg (d (x := 14) (by decide)), if_neg (d (x := 15) (by decide)), if_neg (d (x := 16) (by decide)), if_neg (d (x := 17) (by decide)), if_neg (d (x := 18) (by decide)), if_neg (d (x := 19) (by decide)), if_neg (d (x := 20) (by decide))]
theorem m_cvE {rV rS : m_TyC} {qn qu rd : m_Rr} {qd : Nat → Option Nat} {x1 : Int32} (h : rd 4 = 1) : f_X7_readValue rV rS qn qu rd hn tk tv qd tg x1 = some (qn, qu, rd, qd) := by
  rw [m_cvF (m_signE h) (by decide) (by decide) (by decide) (by decide) (by decide) (by decide) (by decide), m_failE h]; rfl
end
