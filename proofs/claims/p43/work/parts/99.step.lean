/-! MATH: a whole step, on both sides -/
section
variable {tp mt tk ts tl tv kn mf mm hn : m_Rr} {z n : Nat} {tg : Nat → Option Nat} {V0 : m_V} {H t : Nat} {qn qu rd md mr mp ps pt pe pc pw : m_Rr} {qd : Nat → Option Nat} {oc cs op s : Nat} {T2 : Nat → m_Rr} {K2 : Nat → Nat → Option Nat}
theorem m_rest (hF : m_TF tp mt z n tk tg ts tl tv kn mf mm) {mq pd po pq pr : m_Rr} {Q : m_Rr → Prop} {T : Nat → m_Rr} {j : Nat} (h : m_LM mt kn mf mm n tg tv hn V0 (mq, pd, po, pq, pr) H t qn rd md mr mp pc pw oc cs op Q) (hQ : ∀ v, Q v → mq 4 = nI (j + 1) ∧ j < 20) (hs : 9 ≤ s ∧ s ≤ 13) : m_RO mt kn mf mm n tg tv hn V0 mq pd po pq pr H t j s qn qu qd T mp oc cs Q (m_cR hn tk tv tg s j qn qu rd qd T) (f_X15_isRest md mt kn mf mm mr mp pc pw (m_kd s)) := by
  rcases (show s = 9 ∨ s = 10 ∨ s = 11 ∨ s = 12 ∨ s = 13 by omega) with e | e | e | e | e
  · subst e; exact m_rest9 hF h hQ
  · subst e; exact m_rest10 hF h hQ
  · subst e; exact m_rest11 hF h hQ
  · subst e; exact m_rest12 hF h hQ
  · subst e; exact m_rest13 h
theorem m_min20 {ns : Nat} (h : ns < 2 ^ 20) : ∃ i, i < 21 ∧ q_ix (q_min (nI ns) 20) 21 = some i ∧ (ns < 20 → i = ns) := by
  unfold q_min
  by_cases h20 : ns ≤ 20
  · refine ⟨ns, by omega, ?_, fun _ => rfl⟩
    rw [if_neg (show ¬ (20 : Int32) < nI ns from m_nlt (a := 20) (b := ns) h20 (by decide)), q_ix_nI (by omega) (by decide)]
  · refine ⟨20, by omega, ?_, fun _ => by omega⟩
    rw [if_pos (show (20 : Int32) < nI ns from nI_lt (a := 20) (by omega) (by omega))]
    exact q_ix_nI (j := 20) (L := 21) (by decide) (by decide)
theorem m_stepL (hF : m_TF tp mt z n tk tg ts tl tv kn mf mm) (h : m_LS mt kn mf mm n tg tv V0 t qn qu rd hn qd T2 K2 md mr mp ps pt pe pc pw) (hs : tg t = some s) (h913 : 9 ≤ s ∧ s ≤ 13) :
    ∃ qn' qu' rd' qd' T' K' ok md' mr' mp' ps' pt' pe' pc' pw', f_X7_readStep qn qu rd hn tk tv qd tg T2 K2 s = some (qn', qu', rd', qd', T', K') ∧ f_X15_isStep md mt kn mf mm mr mp ps pt pe pc pw (m_kd s) = some (ok, md', mr', mp', ps', pt', pe', pc', pw') ∧ ((ok = false ∧ m_Bd n rd' md') ∨ (ok = true ∧ (∀ j, j ≠ 5 → j ≠ 14 → j ≠ 16 → mp' j = mp j) ∧ ∃ t', t < t' ∧ m_LS mt kn mf mm n tg tv V0 t' qn' qu' rd' hn qd' T' K' md' mr' mp' ps' pt' pe' pc' pw')) := by
  have n400 : n ≤ 400 := hF.2.2.1
  obtain ⟨h1, h3, h9, h10, h0, H, oc, cs, op, ns, mq, pd, po, pq, pr, hH, hq3, hq5, a1, a2, a3, a3b, a4, a5, a6, a7, hS⟩ := h
  have ht := m_lt hF h1 hs (by omega)
  obtain ⟨s', s1, s2', s3, -, -, -⟩ := m_sg hF h1
  obtain rfl : s' = s := Option.some.inj (s2'.symm.trans hs)
  obtain ⟨j, j1, j2, j3⟩ := m_add (qn := qn) (T2 := T2) (K2 := K2) s1
  obtain ⟨rd0, r1, r3, r4⟩ := m_St_step hF h3 ht j3 hS (fun v q => ⟨q.2.2.1, q.2.2.2.1, q.1⟩)
  have hSt := r4 (q_up rd0 3 (nI (t + 1))) (m_up_n (by decide)) (m_up_n (by decide))
  rw [m_csEq s1 j1 j2 r1]
  have g3 : q_up rd0 3 (nI (t + 1)) 3 = nI (t + 1) := m_up_s
  have hn1 := m_St_n1 hSt
  have h1' : t + 1 ≤ n := by omega
  obtain ⟨p, p1, p2, p3, -, -, -⟩ := m_sg hF h1'
  have g9 : q_up md 9 (nI (t + 1)) 9 = nI (t + 1) := m_up_s
  have ea : f_X15_eatAs (q_up md 9 (nI (t + 1))) kn (q_up mr t 2) 40 3 = some (if p = 3 then (true, q_up (q_up md 9 (nI (t + 1))) 9 (nI (t + 1 + 1)), q_up (q_up mr t 2) (t + 1) 3) else (false, q_up md 9 (nI (t + 1)), q_up (q_up mr t 2) (t + 1) 3)) := by
    unfold f_X15_eatAs
    rw [g9, q_ix_nI (show t + 1 < 401 by omega) (by decide), Option.bind_some, show (40 : Int32) = m_kd 3 from rfl, m_eatP g9 (by omega) p1 p3 (by decide)]
    by_cases e : p = 3
    · rw [if_pos e, if_pos e]; rfl
    · rw [if_neg e, if_neg e]; rfl
  unfold m_cS f_X15_isStep
  rw [r3, nI_1, h9, nI_1, q_ix_nI (show t < 401 by omega) (by decide), Option.bind_some, ea]
  by_cases e : p = 3
  · subst e
    have ht' := m_lt hF h1' p2 (by decide)
    rw [if_pos rfl, Option.bind_some, if_pos (show ¬ q_bz true = 0 by decide), a6]
    obtain ⟨i4, i41, i42, i43⟩ := m_min20 (ns := ns) (by omega)
    rw [i42, Option.bind_some, nI_1]
    have hq3' : q_up qn 4 (nI (j + 1)) 3 = nI H := (m_up_n (by decide)).trans hq3
    obtain ⟨hv, rd5, c1, c2, c3, c4, c5⟩ := m_St_hookR (V0 := V0) (pc := pc) (pw := pw) (cs := cs) (op := op) (qn := q_up qn 4 (nI (j + 1))) (mr := q_up mr t 2) (Q := fun v => m_QL H oc cs ns qn qu qd T2 K2 mq pd po pq pr ps pt pe v ∧ j = ns ∧ ns < 20) hF (r := 3) (by decide) (W := (q_up mq 4 (nI (j + 1)), q_up pd j (kn t), po, pq, pr)) (W' := (mq, pd, po, pq, pr)) (fun y => (q_up mq 4 (nI (j + 1)), q_up pd j (kn t), q_up po j y, pq, pr)) g3 hn1 ht' p2 hH hq3' (fun v ve k q => m_eo3 (s := j) hF k ht' p2 m_up_s j1)
    rw [c1, Option.bind_some]
    dsimp only
    have mp14 : q_up mp 5 (nI (ns + 1)) 14 = nI cs := (m_up_n (by decide)).trans a2
    have LM0 : m_LM mt kn mf mm n tg tv hn V0 (q_up mq 4 (nI (j + 1)), q_up pd j (kn t), q_up po j (nI hv), pq, pr) H (t + 1 + 1) (q_up qn 4 (nI (j + 1))) rd5 (q_up (q_up md 9 (nI (t + 1))) 9 (nI (t + 1 + 1))) (q_up (q_up mr t 2) (t + 1) 3) (q_up mp 5 (nI (ns + 1))) pc pw oc cs op (fun v => (m_QL H oc cs ns qn qu qd T2 K2 mq pd po pq pr ps pt pe v ∧ j = ns ∧ ns < 20) ∧ hv < H) :=
      ⟨by omega, c3, m_up_s, (m_up_n (by decide)).trans ((m_up_n (by decide)).trans h10), fun i x1 x2 => (m_up_n (by omega)).trans ((m_up_n (by omega)).trans (h0 i (by omega) x2)), hH, hq3', (m_up_n (by decide)).trans hq5, by omega, mp14, by omega, (m_up_n (by decide)).trans a4, by omega, c5 hSt⟩
    obtain ⟨qn1, qu1, rd1, qd1, T1, ok1, md1, mr1, mp1, pc1, pw1, f1, f2, f3⟩ := m_rest (qu := qu) (qd := qd) (T := q_u2 (q_u2 (q_u2 (q_u2 (q_u2 (q_u2 (q_u2 (q_u2 T2 j 1 0) j 2 0) j 3 0) j 4 0) j 5 0) j 6 0) j 7 0) j 1 (nI hv)) hF LM0 (fun v q => ⟨m_up_s, j1⟩) h913
    rw [f1, f2, Option.bind_some, Option.bind_some]
    dsimp only
    rcases f3 with ⟨rfl, f3⟩ | ⟨rfl, f4, f5, f6, f7, f8, f9, pq1, pr1, oc1, cs1, op1, t1, u1, u2, u3, u4, LM1⟩
    · rw [m_cWE f3.1, if_neg (show ¬ ¬ q_bz false = 0 from fun y => y rfl)]
      exact ⟨_, _, _, _, _, _, _, _, _, _, _, _, _, _, _, rfl, rfl, Or.inl ⟨rfl, f3⟩⟩
    · rw [if_pos (show ¬ q_bz true = 0 by decide)]
      have m14 : mp1 14 = nI cs1 := by
        obtain ⟨-, -, -, -, -, -, -, -, -, x, -⟩ := LM1
        exact x
      rw [mp14, m14]
      obtain ⟨qn2, qu2, rd2, qd2, T3, ok8, md8, w1, w2, w3⟩ := m_LM_when hF LM1 T1 j qu1 qd1
      rw [w1, w2, Option.bind_some, Option.bind_some, Option.bind_some]
      have fin : ∀ {qn2 qu2 rd2 : m_Rr} {qd2 : Nat → Option Nat} {T3 : Nat → m_Rr} {md2 mr2 mp2 pc2 pw2 : m_Rr} {oc2 cs2 op2 t2 : Nat}, t1 ≤ t2 → oc1 ≤ oc2 → cs1 ≤ cs2 → (∀ i, i ≠ 5 → qn2 i = qn1 i) → (∀ i, i ≠ 14 → i ≠ 16 → mp2 i = mp1 i) → (T3 = T1 ∧ cs2 = cs1 ∨ T3 = q_u2 (q_u2 T1 j 6 (nI oc1)) j 7 (nI oc2)) → (mp2 14 = nI cs2) →
          m_LM mt kn mf mm n tg tv hn V0 (q_up mq 4 (nI (j + 1)), q_up pd j (kn t), q_up po j (nI hv), pq1, pr1) H t2 qn2 rd2 md2 mr2 mp2 pc2 pw2 oc2 cs2 op2 (fun v => ∃ v1, (∃ v0, ((m_QL H oc cs ns qn qu qd T2 K2 mq pd po pq pr ps pt pe v0 ∧ j = ns ∧ ns < 20) ∧ hv < H) ∧ (∀ i, i < cs → v1 i = v0 i) ∧ (∀ i, i < oc → qd1 i = qd i ∧ qu1 i = qu i) ∧ m_RkS s' H j T1 pq1 pr1 qd1 qu1 v1 oc oc1 cs cs1) ∧ (∀ i, i < cs1 → v i = v1 i) ∧ (∀ i, i < oc1 → qd2 i = qd1 i ∧ qu2 i = qu1 i) ∧ (T3 = T1 ∧ cs2 = cs1 ∨ T3 = q_u2 (q_u2 T1 j 6 (nI oc1)) j 7 (nI oc2) ∧ m_Cd (m_N H v) qd2 qu2 v (oc2 - oc1) oc1 cs1 0 cs2 1)) →
          m_LS mt kn mf mm n tg tv V0 t2 qn2 qu2 rd2 hn qd2 T3 (q_u2 K2 j 0 (some s')) md2 mr2 mp2 (q_up ps i4 (nI cs)) (q_up pt i4 (nI cs1)) (q_up pe i4 (nI cs2)) pc2 pw2 := by
        intro qn2 qu2 rd2 qd2 T3 md2 mr2 mp2 pc2 pw2 oc2 cs2 op2 t2 v1 v2 v3 v4 v5 v6 v7 LM2
        obtain ⟨l1, l3, l9, l10, l0, -, lq3, lq5, la1, la2, la3, la4, la5, lS⟩ := LM2
        have m5 : mp2 5 = nI (ns + 1) := (v5 5 (by decide) (by decide)).trans ((f5 5 (by decide) (by decide)).trans m_up_s)
        refine ⟨l1, l3, l9, l10, l0, H, oc2, cs2, op2, ns + 1, _, _, _, _, _, hH, lq3, lq5, by omega, la2, by omega, by omega, la4, by omega, m5, by omega, m_St_m lS (fun v q => ?_)⟩
        obtain ⟨y1, ⟨y0, ⟨⟨⟨q1, ⟨m, hf, q2, q2', q2'', q2b⟩, q3, q4, q5⟩, q6, q7⟩, q8⟩, q9, q10, q11⟩, q12, q13, q14⟩ := q
        subst q6
        obtain rfl : i4 = j := i43 q7
        have qq : ∀ i, i ≠ 4 → i ≠ 5 → qn2 i = qn i := fun i x1 x2 => (v4 i x2).trans ((f4 i x2).trans (m_up_n x1))
        have q4' : qn2 4 = nI (i4 + 1) := (v4 4 (by decide)).trans ((f4 4 (by decide)).trans m_up_s)
        have T3e : ∀ k, k ≠ i4 → T3 k = T2 k := fun k hk => by
          have : T1 k = T2 k := by
            rw [f6 k hk, m_u2_j hk, m_u2_j hk, m_u2_j hk, m_u2_j hk, m_u2_j hk, m_u2_j hk, m_u2_j hk, m_u2_j hk]
          rcases v6 with ⟨rfl, -⟩ | rfl
          · exact this
          · rw [m_u2_j hk, m_u2_j hk]; exact this
        have T3j : ∀ i, i ≠ 6 → i ≠ 7 → T3 i4 i = T1 i4 i := fun i x1 x2 => by
          rcases v6 with ⟨rfl, -⟩ | rfl
          · rfl
          · rw [m_u2_i x2, m_u2_i x1]
        have T11 : T1 i4 1 = nI hv := f7.trans m_u2_s
        have T16 : T1 i4 6 = 0 := by rw [f8, m_u2_i (by decide), m_u2_i (by decide), m_u2_s]
        have T17 : T1 i4 7 = 0 := by rw [f9, m_u2_i (by decide), m_u2_s]
        have kd : kn t = m_kd s' := s3
        obtain ⟨e1, e2, e3, e4, e5, e6, e7⟩ := q2b
        refine ⟨by omega, ⟨m, hf, q2, q2', q2'', (qq 0 (by decide) (by decide)).trans e1, (m_up_n (by decide)).trans e2, (qq 1 (by decide) (by decide)).trans e3, (m_up_n (by decide)).trans e4, (qq 2 (by decide) (by decide)).trans (e5.trans (m_up_n (by decide)).symm), lq3, (m_up_n (by decide)).trans e7⟩, q4', m_up_s, fun k hk => ?_⟩
        by_cases ek : k = i4
        · subst ek
          refine ⟨⟨hv, q8, (T3j 1 (by decide) (by decide)).trans T11, m_up_s⟩, ?_, ?_⟩
          · rw [m_u2_s, m_up_s, kd]
            rcases q11 with ⟨x1, x2, x3, x4, r, x5, x6, x7⟩ | ⟨x1, x2, ⟨x3, y, x4, x5, x6, x7⟩ | ⟨x3, x4⟩ | ⟨x3, y, x4, x5, x6, x7⟩ | x3⟩
            · subst x1
              exact Or.inl ⟨rfl, rfl, oc, oc1 - oc, cs, cs1, r, (T3j 4 (by decide) (by decide)).trans x2, (T3j 5 (by decide) (by decide)).trans (by rw [x3]; congr 1; omega), by omega, m_up_s, m_up_s, v3, m_Cd_pc x4 (Nat.le_refl _) (fun i g1 g2 => q13 i (by omega)) (fun i g1 g2 => q12 i (by omega)), x5, (T3j 3 (by decide) (by decide)).trans x6, x7⟩
            · subst x3
              exact Or.inr (Or.inl ⟨rfl, rfl, y, x4, (T3j 2 (by decide) (by decide)).trans x5, x6, (T3j 3 (by decide) (by decide)).trans x7⟩)
            · subst x3
              exact Or.inr (Or.inr (Or.inl ⟨rfl, rfl, (T3j 3 (by decide) (by decide)).trans x4⟩))
            · subst x3
              exact Or.inr (Or.inr (Or.inr (Or.inl ⟨rfl, rfl, y, x4, (T3j 2 (by decide) (by decide)).trans x5, x6, (T3j 3 (by decide) (by decide)).trans x7⟩)))
            · subst x3
              exact Or.inr (Or.inr (Or.inr (Or.inr ⟨rfl, rfl⟩)))
          · rcases q14 with ⟨x1, x2⟩ | ⟨x1, x2⟩
            · subst x1
              exact ⟨0, 0, cs1, cs2, T16, T17, by omega, m_up_s, m_up_s, Nat.le_refl _, Or.inl ⟨rfl, x2.symm⟩⟩
            · subst x1
              refine ⟨oc1, oc2 - oc1, cs1, cs2, ?_, ?_, by omega, m_up_s, m_up_s, Nat.le_refl _, Or.inr ⟨?_, x2⟩⟩
              · rw [m_u2_i (by decide), m_u2_s]
              · rw [m_u2_s]; congr 1; omega
              · rcases Nat.eq_zero_or_pos (oc2 - oc1) with g | g
                · rw [g] at x2
                  exact absurd x2.2 (by decide)
                · exact g
        · refine m_Sq_congr (q5 k (by omega)) (Nat.le_refl _) (by omega) (by omega) (T3e k ek) (m_u2_j ek) (m_up_n ek) (m_up_n ek) (u4 k ek).1 (u4 k ek).2 (m_up_n ek) (m_up_n ek) (m_up_n ek) (fun i hi => ?_) (fun i hi => (q12 i (by omega)).trans (q9 i hi))
          exact ⟨(q13 i (by omega)).1.trans (q10 i hi).1, (q13 i (by omega)).2.trans (q10 i hi).2⟩
      rcases w3 with ⟨rfl, rfl, rfl, rfl, rfl, rfl, rfl⟩ | ⟨rfl, ok2, md2, mr2, mp2, pc2, pw2, w4, w5⟩
      · rw [if_pos (show q_bz false = 0 from rfl)]
        refine ⟨_, _, _, _, _, _, _, _, _, _, _, _, _, _, _, rfl, rfl, Or.inr ⟨rfl, fun i x5 x14 x16 => (f5 i x14 x16).trans (m_up_n x5), t1, by omega, fin (Nat.le_refl _) (Nat.le_refl _) (Nat.le_refl _) (fun _ _ => rfl) (fun _ _ _ => rfl) (Or.inl ⟨rfl, rfl⟩) m14 (m_LM_m LM1 (fun v q => ?_))⟩⟩
        exact ⟨v, q, fun _ _ => rfl, fun _ _ => ⟨rfl, rfl⟩, Or.inl ⟨rfl, rfl⟩⟩
      · rw [if_neg (show ¬ q_bz true = 0 by decide)]
        dsimp only
        rw [w4, Option.bind_some]
        rcases w5 with ⟨rfl, w5, -⟩ | ⟨rfl, w5, w6, oc2, cs2, op2, t2, w7, w8, w9, w10, LM2⟩
        · rw [if_neg (show ¬ ¬ q_bz false = 0 from fun y => y rfl)]
          exact ⟨_, _, _, _, _, _, _, _, _, _, _, _, _, _, _, rfl, rfl, Or.inl ⟨rfl, w5⟩⟩
        · have m14' : mp2 14 = nI cs2 := by
            obtain ⟨-, -, -, -, -, -, -, -, -, x, -⟩ := LM2
            exact x
          rw [if_pos (show ¬ q_bz true = 0 by decide)]
          dsimp only
          rw [m14']
          refine ⟨_, _, _, _, _, _, _, _, _, _, _, _, _, _, _, rfl, rfl, Or.inr ⟨rfl, fun i x5 x14 x16 => (w6 i x14 x16).trans ((f5 i x14 x16).trans (m_up_n x5)), t2, by omega, fin (by omega) w8 w9 w5 w6 (Or.inr w10) m14' (m_LM_m LM2 (fun v q => ?_))⟩⟩
          obtain ⟨v1, y1, y2, y3, y4⟩ := q
          exact ⟨v1, y1, y2, y3, Or.inr ⟨w10, y4⟩⟩
  · rw [if_neg e, m_hookF hF g3 hn1 h1' p2 e, Option.bind_some, Option.bind_some, if_neg (show ¬ ¬ q_bz false = 0 from fun y => y rfl)]
    dsimp only
    obtain ⟨T', hT⟩ := m_cRE (s := s') (hn := hn) (tk := tk) (tv := tv) (tg := tg) (qn := q_up qn 4 (nI (j + 1))) (qu := qu) (rd := m_fl (q_up rd0 3 (nI (t + 1)))) (qd := qd) (j := j) (T := q_u2 (q_u2 (q_u2 (q_u2 (q_u2 (q_u2 (q_u2 (q_u2 T2 j 1 0) j 2 0) j 3 0) j 4 0) j 5 0) j 6 0) j 7 0) j 1 0) m_fl_4
    rw [hT, Option.bind_some]
    dsimp only
    rw [m_cWE m_fl_4]
    exact ⟨_, _, _, _, _, _, _, _, _, _, _, _, _, _, _, rfl, rfl, Or.inl ⟨rfl, m_fl_4 (rd := q_up rd0 3 (nI (t + 1))), t + 1, h1', (m_fl_5 (rd := q_up rd0 3 (nI (t + 1)))).trans g3, g9⟩⟩
end
