/-! MATH: a bale is taken over: what each side does -/
theorem m_bz1 : ¬ q_bz true = 0 := by decide
theorem m_copyTo {pl ag : Nat → Int32} {b : Nat} {x : Int32} (h : b < 128) : f_X1_copyTo pl ag (nI b) x = some (q_up pl b x, q_up ag b (ag b + 1)) := by
  unfold f_X1_copyTo
  rw [if_neg (nI_pos (by omega)), if_neg (show ¬ (128 : Int32) ≤ nI b from nI_ge h (by decide)), q_ix_nI h (by decide), Option.bind_some, Option.bind_some, Option.bind_some]
theorem m_promoteTo {ly pl : Nat → Int32} {b : Nat} {x : Int32} (h : b < 128) : f_X1_promoteTo ly pl (nI b) x = some (q_up ly b 2, q_up pl b x) := by
  unfold f_X1_promoteTo
  rw [if_neg (nI_pos (by omega)), if_neg (show ¬ (128 : Int32) ≤ nI b from nI_ge h (by decide)), q_ix_nI h (by decide), Option.bind_some, Option.bind_some]
theorem m_layInRow {bn rw : Nat → Int32} {k : Nat} {x y : Int32} (hk : bn 7 = nI k) (h : k < 64) : f_X2_layInRow bn rw x y = some (q_up (q_up bn 7 (nI (k + 1))) 8 (bn 8 + y), q_up rw k x) := by
  unfold f_X2_layInRow
  rw [hk, if_neg (nI_pos (by omega)), if_neg (show ¬ (64 : Int32) ≤ nI k from nI_ge h (by decide)), q_ix_nI h (by decide), Option.bind_some, nI_1, m_up_n (show (8 : Nat) ≠ 7 by decide)]
section
variable {pn bn ly pl sz ag lo lr li nr nd rw : Nat → Int32} {b : Nat}
theorem m_tkc_1 : f_X2_takeOver pn bn ly pl sz ag lo lr li nr nd rw (-1) = some (bn, ly, pl, ag, lo, lr, li, nr, nd, rw) := by
  unfold f_X2_takeOver
  rw [m_half1, Option.bind_some, if_pos (show q_bz false = 0 by decide)]
theorem m_tkc_no (h : b < 128) (hl : ¬ ly b = 1) : f_X2_takeOver pn bn ly pl sz ag lo lr li nr nd rw (nI b) = some (bn, ly, pl, ag, lo, lr, li, nr, nd, rw) := by
  unfold f_X2_takeOver
  rw [m_half h, Option.bind_some, if_pos (by rw [m_bz]; simpa using hl)]
theorem m_tkc_in (h : b < 128) (hn : ¬ nd b = -1) : f_X2_takeOver pn bn ly pl sz ag lo lr li nr nd rw (nI b) = some (bn, ly, pl, ag, lo, lr, li, nr, nd, rw) := by
  by_cases hl : ly b = 1
  · unfold f_X2_takeOver
    have e : f_X4_add li nr nd (nI b) 0 = some (false, li, nr, nd) := by
      unfold f_X4_add
      rw [if_neg (nI_pos (by omega)), if_neg (show ¬ (128 : Int32) ≤ nI b from nI_ge h (by decide))]
      by_cases h2 : li 2 < 0
      · rw [if_pos h2]
      · rw [if_neg h2]
        by_cases h3 : li 2 < (128 : Int32)
        · rw [if_pos h3, q_ix_nI h (by decide), Option.bind_some, if_neg hn]
        · rw [if_neg h3]
    rw [m_half h, Option.bind_some, if_neg (by rw [m_bz]; simpa using hl), e, Option.bind_some, if_neg (show ¬ ¬ q_bz false = 0 by decide)]
  · exact m_tkc_no h hl
theorem m_tkc_new {li' nr' nd' : Nat → Int32} (h : b < 128) (hl : ly b = 1) (e : f_X4_add li nr nd (nI b) 0 = some (true, li', nr', nd')) {g : Option Nat} (hg : f_X5_gapFor lo lr (sz b) = some (m_o g)) {k : Nat} (hk : bn 7 = nI k) (hk2 : k < 64) (hg2 : ∀ p, g = some p → p < 64) :
    f_X2_takeOver pn bn ly pl sz ag lo lr li nr nd rw (nI b) = match (if ag b < pn 2 then none else g) with
    | none => some (q_up (q_up bn 7 (nI (k + 1))) 8 (bn 8 + sz b), ly, q_up pl b (bn 8), q_up ag b (ag b + 1), lo, lr, li', nr', nd', q_up rw k (nI b))
    | some p => (f_X5_lay lo lr (nI b) (nI p) (sz b)).bind fun r => some (q_up bn 13 (bn 13 + 1), q_up ly b 2, q_up pl b (nI p), ag, r.1, r.2, li', nr', nd', rw) := by
  unfold f_X2_takeOver
  rw [m_half h, Option.bind_some, if_neg (by rw [m_bz]; simpa using hl), e, Option.bind_some, if_pos m_bz1, m_size h, Option.bind_some, m_age h, Option.bind_some]
  by_cases ha : ag b < pn 2
  · rw [if_pos ha, if_pos ha, if_neg (fun h2 => h2 rfl), m_copyTo h, Option.bind_some, m_layInRow hk hk2, Option.bind_some]
  · rw [if_neg ha, if_neg ha, hg, Option.bind_some]
    cases g with
    | none => rw [show m_o none = -1 from rfl, if_neg (fun h2 => h2 rfl), m_copyTo h, Option.bind_some, m_layInRow hk hk2, Option.bind_some]
    | some p =>
      have := hg2 p rfl
      rw [show m_o (some p) = nI p from rfl, if_pos (m_nI_m1 (by omega)), m_promoteTo h, Option.bind_some]
end
section
variable {md mp mq mi st sw sp ss sa ol : Nat → Int32} {b : Nat} {x : Int32}
theorem m_tkr_1 : f_X14_takeOver md mp mq mi st sw sp ss sa ol (-1) x = some (x, md, mq, mi, st, sw, sp, sa) := by
  unfold f_X14_takeOver
  rw [if_pos rfl]
theorem m_tkr_no (h : b < 136) (ho : ¬ ol b = 1) : f_X14_takeOver md mp mq mi st sw sp ss sa ol (nI b) x = some (x, md, mq, mi, st, sw, sp, sa) := by
  unfold f_X14_takeOver
  rw [if_neg (m_nI_m1 (by omega)), q_ix_nI h (by decide), Option.bind_some, if_pos ho]
theorem m_tkr_in (h : b < 136) (hm : ¬ mi b = 0) : f_X14_takeOver md mp mq mi st sw sp ss sa ol (nI b) x = some (x, md, mq, mi, st, sw, sp, sa) := by
  by_cases ho : ol b = 1
  · unfold f_X14_takeOver
    rw [if_neg (m_nI_m1 (by omega)), q_ix_nI h (by decide), Option.bind_some, if_neg (fun h2 => h2 ho), Option.bind_some, if_neg hm]
  · exact m_tkr_no h ho
theorem m_tkr_new {md' mq' mi' : Nat → Int32} (h : b < 136) (ho : ol b = 1) (hm : mi b = 0) (e : f_X14_comeTo md mq mi (nI b) = some (md', mq', mi')) {g : Option Nat} (hg : f_X14_gapFor mp sw sp ss (ss b) = some (m_o g)) (hg2 : ∀ p, g = some p → p < 64) :
    f_X14_takeOver md mp mq mi st sw sp ss sa ol (nI b) x = match (if sa b < mp 3 then none else g) with
    | none => some (x + ss b, md', mq', mi', st, q_up sw b 1, q_up sp b x, q_up sa b (sa b + 1))
    | some p => some (x, md', mq', mi', q_up st 4 (st 4 + 1), q_up sw b 2, q_up sp b (nI p), sa) := by
  unfold f_X14_takeOver
  rw [if_neg (m_nI_m1 (by omega)), q_ix_nI h (by decide), Option.bind_some, if_neg (fun h2 => h2 ho), Option.bind_some, if_pos hm, e, Option.bind_some, Option.bind_some]
  by_cases ha : sa b < mp 3
  · rw [if_pos ha, if_pos ha, if_pos rfl]; rfl
  · rw [if_neg ha, if_neg ha, Option.bind_some, hg, Option.bind_some]
    cases g with
    | none => rw [show m_o none = -1 from rfl, if_pos rfl]; rfl
    | some p =>
      have := hg2 p rfl
      rw [show m_o (some p) = nI p from rfl, if_neg (m_nI_m1 (by omega))]; rfl
end
