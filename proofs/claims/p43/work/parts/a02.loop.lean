/-! MATH: all lines, on both sides -/
section
variable {tp mt tk ts tl tv kn mf mm : m_Rr} {z n : Nat} {tg : Nat → Option Nat} {V0 : m_V}
theorem m_LS_adv (hn4 : n ≤ 400) {t : Nat} {qn qu rd hn md mr mp ps pt pe pc pw : m_Rr} {qd : Nat → Option Nat} {T2 : Nat → m_Rr} {K2 : Nat → Nat → Option Nat} (h : m_LS mt kn mf mm n tg tv V0 t qn qu rd hn qd T2 K2 md mr mp ps pt pe pc pw) (ht : t < n) : m_LS mt kn mf mm n tg tv V0 (t + 1) qn qu (q_up rd 3 (nI (t + 1))) hn qd T2 K2 (q_up md 9 (nI (t + 1))) mr mp ps pt pe pc pw := by
  obtain ⟨h1, h3, h9, h10, h0, H, oc, cs, op, ns, mq, pd, po, pq, pr, hH, hq3, hq5, a1, a2, a3, a3b, a4, a5, a6, a7, hS⟩ := h
  exact ⟨by omega, m_up_s, m_up_s, (m_up_n (by decide)).trans h10, fun k x1 x2 => h0 k (by omega) x2, H, oc, cs, op, ns, mq, pd, po, pq, pr, hH, hq3, hq5, by omega, a2, by omega, a3b, a4, by omega, a6, by omega, m_St_0 hn4 hS ht (h0 t (Nat.le_refl _) h1) (m_up_n (by decide)) (m_up_n (by decide))⟩
theorem m_LS_n1 {t : Nat} {qn qu rd hn md mr mp ps pt pe pc pw : m_Rr} {qd : Nat → Option Nat} {T2 : Nat → m_Rr} {K2 : Nat → Nat → Option Nat} (h : m_LS mt kn mf mm n tg tv V0 t qn qu rd hn qd T2 K2 md mr mp ps pt pe pc pw) : rd 4 ≠ 1 := by
  obtain ⟨h1, h3, h9, h10, h0, H, oc, cs, op, ns, mq, pd, po, pq, pr, hH, hq3, hq5, a1, a2, a3, a3b, a4, a5, a6, a7, hS⟩ := h
  exact m_St_n1 hS
theorem m_isSt {s : Nat} (hs : s < 49) : f_X7_isStep s = some (decide (9 ≤ s ∧ s ≤ 13)) := by
  unfold f_X7_isStep
  rw [m_e49 hs, Option.bind_some]
  by_cases h : 9 ≤ s ∧ s ≤ 13
  · rw [decide_eq_true h]
    rcases (show s = 9 ∨ s = 10 ∨ s = 11 ∨ s = 12 ∨ s = 13 by omega) with e | e | e | e | e <;> rw [e] <;> rfl
  · rw [decide_eq_false h, if_neg (by omega), if_neg (by omega), if_neg (by omega), if_neg (by omega), if_neg (by omega)]
theorem m_loopE {fu : Nat} {qn qu rd hn : m_Rr} {qd : Nat → Option Nat} {T2 : Nat → m_Rr} {K2 : Nat → Nat → Option Nat} {c : Int32} (h : rd 4 = 1) : f_X7_read_L18 tk tv tg (fu + 1) qn qu rd hn qd T2 K2 c = some (qn, qu, rd, hn, qd, T2, K2) := by
  rw [f_X7_read_L18]
  by_cases h4 : (400 : Int32) < c
  · rw [if_pos h4]
  · rw [if_neg h4, m_signE h, Option.bind_some, m_e49 (by decide), Option.bind_some, if_neg (by decide), if_pos h]
/-- the reference at a step's line -/
theorem m_lineS {s : Nat} (hs : 9 ≤ s ∧ s ≤ 13) {t : Nat} {md mr mp ps pt pe pc pw : m_Rr} (h9 : md 9 = nI t) (ht : t < 401) (hk : kn t = m_kd s) : f_X15_isLine md mt kn mf mm mr mp ps pt pe pc pw = (f_X15_isStep md mt kn mf mm mr mp ps pt pe pc pw (m_kd s)).bind fun r3 => some (r3.1, r3.2.1, r3.2.2.1, r3.2.2.2.1, r3.2.2.2.2.1, r3.2.2.2.2.2.1, r3.2.2.2.2.2.2.1, r3.2.2.2.2.2.2.2.1, r3.2.2.2.2.2.2.2.2) := by
  unfold f_X15_isLine
  rw [h9, q_ix_nI ht (by decide), Option.bind_some, hk]
  rcases (show s = 9 ∨ s = 10 ∨ s = 11 ∨ s = 12 ∨ s = 13 by omega) with e | e | e | e | e <;> rw [e] <;> rfl
theorem m_loop (hF : m_TF tp mt z n tk tg ts tl tv kn mf mm) : ∀ (g t : Nat) (qn qu rd hn md mr mp ps pt pe pc pw : m_Rr) (qd : Nat → Option Nat) (T2 : Nat → m_Rr) (K2 : Nat → Nat → Option Nat) (c fu fu' : Nat), m_LS mt kn mf mm n tg tv V0 t qn qu rd hn qd T2 K2 md mr mp ps pt pe pc pw → n - t ≤ g → c ≤ t → g + 1 < fu → g < fu' →
    ∃ qn' qu' rd' hn' qd' T' K' st md' mr' mp' ps' pt' pe' pc' pw', f_X7_read_L18 tk tv tg fu qn qu rd hn qd T2 K2 (nI c) = some (qn', qu', rd', hn', qd', T', K') ∧ f_X15_isBarn_L0 mt kn mf mm fu' md mr mp ps pt pe pc pw = some (st, md', mr', mp', ps', pt', pe', pc', pw') ∧ ((st = 1 ∧ m_Bd n rd' md') ∨ (st = 0 ∧ (∀ j, j ≠ 5 → j ≠ 14 → j ≠ 16 → mp' j = mp j) ∧ m_LS mt kn mf mm n tg tv V0 n qn' qu' rd' hn' qd' T' K' md' mr' mp' ps' pt' pe' pc' pw')) := by
  have n400 : n ≤ 400 := hF.2.2.1
  intro g
  induction g with
  | zero =>
    intro t qn qu rd hn md mr mp ps pt pe pc pw qd T2 K2 c fu fu' h hg hc hfu hfu'
    obtain ⟨fu, rfl⟩ : ∃ q, fu = q + 1 := ⟨fu - 1, by omega⟩
    obtain ⟨fu', rfl⟩ : ∃ q, fu' = q + 1 := ⟨fu' - 1, by omega⟩
    have h1 := h.1
    have h3 := h.2.1
    have h9 := h.2.2.1
    have hn1 := m_LS_n1 h
    obtain rfl : t = n := by omega
    obtain ⟨s, s1, s2, s3, -, -, s5⟩ := m_sg hF h1
    obtain ⟨b1, b2⟩ := m_signP hF h3 hn1 h1 s2
    have i9 : f_X15_is md kn 900 = some (decide (s = 0)) := m_isP (x := 0) h9 (by omega) s1 s3 (by decide)
    rw [f_X7_read_L18, f_X15_isBarn_L0, i9, Option.bind_some, if_neg (show ¬ (400 : Int32) < nI c from m_nlt (a := 400) (b := c) (by omega) (by decide)), b1, Option.bind_some, m_e49 b2, Option.bind_some]
    by_cases e : s = 0
    · rw [if_pos e, if_pos (m_bzT e)]
      exact ⟨_, _, _, _, _, _, _, _, _, _, _, _, _, _, _, _, rfl, rfl, Or.inr ⟨rfl, fun _ _ _ _ => rfl, h⟩⟩
    · have e1 : ¬ (9 ≤ s ∧ s ≤ 13) := by have := s5 rfl; omega
      obtain ⟨qn', rd', hn', ok, md', mr', f1, f2, f3⟩ := m_setL hF h s2 e1 e
      rw [if_neg e, if_neg hn1, Option.bind_some, m_e49 b2, Option.bind_some, m_isSt b2, Option.bind_some, if_pos (m_bzF e1), f1, Option.bind_some, if_neg (show ¬ ¬ q_bz (decide (s = 0)) = 0 from fun y => y (m_bzF e)), f2, Option.bind_some]
      rcases f3 with ⟨rfl, f3⟩ | ⟨rfl, t', f4, f5⟩
      · obtain ⟨fu, rfl⟩ : ∃ q, fu = q + 1 := ⟨fu - 1, by omega⟩
        rw [m_takeE f3.1 (by decide) (by decide), Option.bind_some, if_pos (show q_bz false = 0 from rfl)]
        dsimp only
        rw [m_loopE f3.1]
        exact ⟨_, _, _, _, _, _, _, _, _, _, _, _, _, _, _, _, rfl, rfl, Or.inl ⟨rfl, f3⟩⟩
      · have := f5.1
        omega
  | succ g ih =>
    intro t qn qu rd hn md mr mp ps pt pe pc pw qd T2 K2 c fu fu' h hg hc hfu hfu'
    obtain ⟨fu, rfl⟩ : ∃ q, fu = q + 1 + 1 := ⟨fu - 2, by omega⟩
    obtain ⟨fu', rfl⟩ : ∃ q, fu' = q + 1 := ⟨fu' - 1, by omega⟩
    have h1 := h.1
    have h3 := h.2.1
    have h9 := h.2.2.1
    have hn1 := m_LS_n1 h
    obtain ⟨s, s1, s2, s3, -, s4, s5⟩ := m_sg hF h1
    obtain ⟨b1, b2⟩ := m_signP hF h3 hn1 h1 s2
    have i9 : f_X15_is md kn 900 = some (decide (s = 0)) := m_isP (x := 0) h9 (by omega) s1 s3 (by decide)
    rw [f_X7_read_L18, f_X15_isBarn_L0, i9, Option.bind_some, if_neg (show ¬ (400 : Int32) < nI c from m_nlt (a := 400) (b := c) (by omega) (by decide)), b1, Option.bind_some, m_e49 b2, Option.bind_some]
    by_cases e : s = 0
    · obtain rfl : t = n := by
        rcases Nat.lt_or_ge t n with g | g
        · have := s4 g; omega
        · omega
      rw [if_pos e, if_pos (m_bzT e)]
      exact ⟨_, _, _, _, _, _, _, _, _, _, _, _, _, _, _, _, rfl, rfl, Or.inr ⟨rfl, fun _ _ _ _ => rfl, h⟩⟩
    · have semi : ∀ {qn' qu' rd' hn' md' mr' mp' ps' pt' pe' pc' pw' : m_Rr} {qd' : Nat → Option Nat} {T' : Nat → m_Rr} {K' : Nat → Nat → Option Nat} {t' : Nat}, t < t' → m_LS mt kn mf mm n tg tv V0 t' qn' qu' rd' hn' qd' T' K' md' mr' mp' ps' pt' pe' pc' pw' → (∀ j, j ≠ 5 → j ≠ 14 → j ≠ 16 → mp' j = mp j) →
          ∃ q1 q2 q3 q4 q5 q6 q7 st md2 mr2 mp2 ps2 pt2 pe2 pc2 pw2, ((f_X7_take rd' tk tg 38).bind fun r13 => f_X7_read_L18 tk tv tg (fu + 1) qn' qu' r13.2 hn' qd' T' K' (nI c + 1)) = some (q1, q2, q3, q4, q5, q6, q7) ∧ ((f_X15_eatSign md' kn 59).bind fun r5 => if ¬ (q_bz r5.1) = 0 then f_X15_isBarn_L0 mt kn mf mm fu' r5.2 mr' mp' ps' pt' pe' pc' pw' else some (1, r5.2, mr', mp', ps', pt', pe', pc', pw')) = some (st, md2, mr2, mp2, ps2, pt2, pe2, pc2, pw2) ∧ ((st = 1 ∧ m_Bd n q3 md2) ∨ (st = 0 ∧ (∀ j, j ≠ 5 → j ≠ 14 → j ≠ 16 → mp2 j = mp j) ∧ m_LS mt kn mf mm n tg tv V0 n q1 q2 q3 q4 q5 q6 q7 md2 mr2 mp2 ps2 pt2 pe2 pc2 pw2)) := by
        intro qn' qu' rd' hn' md' mr' mp' ps' pt' pe' pc' pw' qd' T' K' t' t1 h' hm
        have l1 := h'.1
        have l3 := h'.2.1
        have l9 := h'.2.2.1
        have ln1 := m_LS_n1 h'
        obtain ⟨p, p1, p2, p3, -, -, -⟩ := m_sg hF l1
        rw [m_takeP hF l3 ln1 l1 p2 (by decide), m_eatSgP (x := 38) l9 (by omega) p1 p3 (by decide) (by decide), Option.bind_some, Option.bind_some]
        by_cases e : p = 38
        · subst e
          have ht' := m_lt hF l1 p2 (by decide)
          rw [if_pos rfl, if_pos rfl, nI_1, if_pos (show ¬ q_bz true = 0 by decide)]
          obtain ⟨q1, q2, q3, q4, q5, q6, q7, st, md2, mr2, mp2, ps2, pt2, pe2, pc2, pw2, f1, f2, f3⟩ := ih (t' + 1) _ _ _ _ _ _ _ _ _ _ _ _ _ _ _ (c + 1) (fu + 1) fu' (m_LS_adv n400 h' ht') (by omega) (by omega) (by omega) (by omega)
          refine ⟨q1, q2, q3, q4, q5, q6, q7, st, md2, mr2, mp2, ps2, pt2, pe2, pc2, pw2, f1, f2, ?_⟩
          rcases f3 with f3 | ⟨f3, f4, f5⟩
          · exact Or.inl f3
          · exact Or.inr ⟨f3, fun j x1 x2 x3 => (f4 j x1 x2 x3).trans (hm j x1 x2 x3), f5⟩
        · rw [if_neg e, if_neg e, if_neg (show ¬ ¬ q_bz false = 0 from fun y => y rfl)]
          dsimp only
          rw [m_loopE m_fl_4]
          exact ⟨_, _, _, _, _, _, _, _, _, _, _, _, _, _, _, _, rfl, rfl, Or.inl ⟨rfl, m_fl_4 (rd := rd'), t', l1, (m_fl_5 (rd := rd')).trans l3, l9⟩⟩
      have bad : ∀ {qn' qu' rd' hn' md' mr' mp' ps' pt' pe' pc' pw' : m_Rr} {qd' : Nat → Option Nat} {T' : Nat → m_Rr} {K' : Nat → Nat → Option Nat}, m_Bd n rd' md' → ((f_X7_take rd' tk tg 38).bind fun r13 => f_X7_read_L18 tk tv tg (fu + 1) qn' qu' r13.2 hn' qd' T' K' (nI c + 1)) = some (qn', qu', rd', hn', qd', T', K') := by
        intro qn' qu' rd' hn' md' mr' mp' ps' pt' pe' pc' pw' qd' T' K' hb
        rw [m_takeE hb.1 (by decide) (by decide), Option.bind_some]
        dsimp only
        rw [m_loopE hb.1]
      rw [if_neg e, if_neg hn1, Option.bind_some, m_e49 b2, Option.bind_some, m_isSt b2, Option.bind_some, if_neg (show ¬ ¬ q_bz (decide (s = 0)) = 0 from fun y => y (m_bzF e))]
      by_cases e1 : 9 ≤ s ∧ s ≤ 13
      · obtain ⟨qn', qu', rd', qd', T', K', ok, md', mr', mp', ps', pt', pe', pc', pw', f1, f2, f3⟩ := m_stepL hF h s2 e1
        rw [if_neg (m_bzT e1), Option.bind_some, m_e49 b2, Option.bind_some, f1, Option.bind_some, m_lineS e1 h9 (by omega) s3, f2, Option.bind_some, Option.bind_some]
        dsimp only
        rcases f3 with ⟨rfl, f3⟩ | ⟨rfl, f4, t', f5, f6⟩
        · rw [bad (md' := md') (mr' := qn) (mp' := qn) (ps' := qn) (pt' := qn) (pe' := qn) (pc' := qn) (pw' := qn) f3, if_pos (show q_bz false = 0 from rfl)]
          exact ⟨_, _, _, _, _, _, _, _, _, _, _, _, _, _, _, _, rfl, rfl, Or.inl ⟨rfl, f3⟩⟩
        · rw [if_neg (show ¬ q_bz true = 0 by decide)]
          exact semi f5 f6 f4
      · obtain ⟨qn', rd', hn', ok, md', mr', f1, f2, f3⟩ := m_setL hF h s2 e1 e
        rw [if_pos (m_bzF e1), f1, Option.bind_some, f2, Option.bind_some]
        dsimp only
        rcases f3 with ⟨rfl, f3⟩ | ⟨rfl, t', f5, f6⟩
        · rw [bad (md' := md') (mr' := qn) (mp' := qn) (ps' := qn) (pt' := qn) (pe' := qn) (pc' := qn) (pw' := qn) f3, if_pos (show q_bz false = 0 from rfl)]
          exact ⟨_, _, _, _, _, _, _, _, _, _, _, _, _, _, _, _, rfl, rfl, Or.inl ⟨rfl, f3⟩⟩
        · rw [if_neg (show ¬ q_bz true = 0 by decide)]
          exact semi f5 f6 (fun _ _ _ _ => rfl)
end
