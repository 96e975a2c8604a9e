/-! MATH: reading, on both sides -/
section
variable {tp mt : m_Rr} {z : Nat}
theorem m_St_start {mt kn mf mm tv me mp pd po pq pr rd mr pc pw hn qn qu ps pt pe : m_Rr} {tg qd : Nat → Option Nat} {T2 : Nat → m_Rr} {K2 : Nat → Nat → Option Nat} (h4 : rd 4 = 0) (q0 : qn 0 = 16) (q1 : qn 1 = 16) (q2 : qn 2 = 2) (q3 : qn 3 = 0) (q4 : qn 4 = 0) (p0 : mp 0 = 0) (p1 : mp 1 = 16) (p2 : mp 2 = 16) (p3 : mp 3 = 2) (p4 : mp 4 = 0) : m_St mt kn mf mm tg tv hn (me, mp, pd, po, pq, pr) (mp, pd, po, pq, pr) 0 rd mr pc pw 0 0 0 (fun v => m_QL 0 0 0 0 qn qu qd T2 K2 mp pd po pq pr ps pt pe v) := by
  refine Or.inr ⟨h4, me, pc, rfl, ⟨by decide, rfl, fun h k hk => ?_⟩, ⟨fun o ho => absurd ho (by omega), fun o o' h1 h2 => absurd h2 (by omega), fun j hj => absurd hj (by omega)⟩, by omega, ⟨16, 16, by omega, by omega, by omega, q0, p1, q1, p2, q2.trans p3.symm, q3, p0⟩, q4, p4, fun k hk => absurd hk (by omega)⟩
  have : m_hl mr 0 = [] := rfl
  rw [this] at hk
  simp at hk
theorem m_read (hB : m_By tp mt) (hz : z ≤ 2000) {md : m_Rr} (hmd : md 2 = nI z) (qn qu rd hn tk ts tl tv kn mf mm mr me mp pd po pq pr ps pt pe pc pw : m_Rr) (qd tg : Nat → Option Nat) (T2 : Nat → m_Rr) (K2 : Nat → Nat → Option Nat) (p0 : mp 0 = 0) (p1 : mp 1 = 16) (p2 : mp 2 = 16) (p3 : mp 3 = 2) (p4 : mp 4 = 0) (p5 : mp 5 = 0) (p14 : mp 14 = 0) (p16 : mp 16 = 0) :
    ∃ err qn' qu' rd' hn' tk' ts' tl' tv' qd' tg' T' K' p md' kn' mf' mm' mr' me' mp' pd' po' pq' pr' ps' pt' pe' pc' pw', f_X7_read tp qn qu rd hn tk ts tl tv qd tg T2 K2 (nI z) = some (err, qn', qu', rd', hn', tk', ts', tl', tv', qd', tg', T', K') ∧ f_X7_position rd' tk' ts' = some p ∧ f_X15_read md mt kn mf mm mr me mp pd po pq pr ps pt pe pc pw = some (err, md', kn', mf', mm', mr', me', mp', pd', po', pq', pr', ps', pt', pe', pc', pw') ∧ (∀ j, j ≠ 3 → j ≠ 9 → j ≠ 10 → md' j = md j) ∧
    ((err ≠ 0 ∧ 0 < err ∧ md' 3 = p) ∨ (err = 0 ∧ p = -1 ∧ md' 3 = md 3 ∧ ∃ H m hf ns oc, 8 ≤ hf ∧ hf ≤ 64 ∧ m ≤ 64 ∧ H ≤ 6 ∧ m_Pn H m hf ns oc qn' qu' qd' T' K' mp' pd' po' pq' pr' ps' pt' pe' pc')) := by
  obtain ⟨n, tk', ts', tl', tv', tg', kn', mf', mm', mr', me', s1, s2, n400, hT, hend, ht5, ht6, hmr⟩ := m_cut hB hz hmd tk ts tl tv kn mf mm mr me tg
  have hF : m_TF tp mt z n tk' tg' ts' tl' tv' kn' mf' mm' := ⟨hB, hz, n400, hT, hend, ht5, ht6⟩
  have tsmf : ∀ t, t ≤ n → ts' t = mf' t := fun t ht => by
    by_cases h : t < n
    · obtain ⟨s, p, l, -, -, -, -, -, c1, c2, -⟩ := hT t h
      rw [c1, c2]
    · obtain rfl : t = n := by omega
      obtain ⟨e, p, -, -, -, c1, c2, -⟩ := hend
      rw [c1, c2]
  have pos : ∀ {rd : m_Rr} {t : Nat}, rd 4 ≠ 0 → t ≤ n → rd 5 = nI t → f_X7_position rd tk' ts' = some (ts' t) := fun h4 ht h5 => by
    unfold f_X7_position f_X11_position
    rw [if_pos h4, h5, if_neg (nI_pos (by omega)), ht6, if_neg (nI_ge (by omega) (by omega)), if_neg (show ¬ (400 : Int32) < nI _ from m_nlt (a := 400) (by omega) (by decide)), q_ix_nI (by omega) (by decide)]; rfl
  have frB : ∀ {r}, f_X15_isBarn_L0 mt kn' mf' mm' 4096 (q_up (q_up md 9 0) 10 0) mr' mp ps pt pe pc pw = some r → ∀ j, j ≠ 9 → j ≠ 10 → r.2.1 j = md j := fun h => m_fr_barnL (md0 := md) 4096 _ mr' mp ps pt pe pc pw (m_K10 (m_K9 (fun _ _ _ => rfl))) _ h
  have LS0 : m_LS mt kn' mf' mm' n tg' tv' (me', mp, pd, po, pq, pr) 0 (q_up (q_up (q_up (q_up (q_up (q_up qn 0 16) 1 16) 2 2) 3 0) 4 0) 5 0) qu (q_up (q_up rd 3 0) 4 0) hn qd T2 K2 (q_up (q_up md 9 0) 10 0) mr' mp ps pt pe pc pw :=
    ⟨by omega, (m_up_n (by decide)).trans m_up_s, (m_up_n (by decide)).trans m_up_s, m_up_s, fun i _ hi => (hmr i hi).1, 0, 0, 0, 0, 0, mp, pd, po, pq, pr, by omega, (m_up_n (by decide)).trans ((m_up_n (by decide)).trans m_up_s), m_up_s, by omega, p14, by omega, by omega, p16, by omega, p5, by omega,
      m_St_start m_up_s ((m_up_n (by decide)).trans ((m_up_n (by decide)).trans ((m_up_n (by decide)).trans ((m_up_n (by decide)).trans ((m_up_n (by decide)).trans m_up_s))))) ((m_up_n (by decide)).trans ((m_up_n (by decide)).trans ((m_up_n (by decide)).trans ((m_up_n (by decide)).trans m_up_s)))) ((m_up_n (by decide)).trans ((m_up_n (by decide)).trans ((m_up_n (by decide)).trans m_up_s))) ((m_up_n (by decide)).trans ((m_up_n (by decide)).trans m_up_s)) ((m_up_n (by decide)).trans m_up_s) p0 p1 p2 p3 p4⟩
  obtain ⟨qn', qu', rd', hn', qd', T', K', st, md1, mr1, mp1, ps1, pt1, pe1, pc1, pw1, l1, l2, l3⟩ := m_loop hF n 0 _ _ _ _ _ _ _ _ _ _ _ _ _ _ _ 0 4096 4096 LS0 (by omega) (by omega) (by omega) (by omega)
  have fr1 := frB l2
  dsimp only at fr1
  have hc : f_X7_read tp qn qu rd hn tk ts tl tv qd tg T2 K2 (nI z) = some (rd' 4, qn', qu', rd', hn', tk', ts', tl', tv', qd', tg', T', K') := by
    unfold f_X7_read f_X6_clear
    rw [s1, Option.bind_some, Option.bind_some]
    dsimp only
    rw [show f_X7_read_L18 tk' tv' tg' 4096 (q_up (q_up (q_up (q_up (q_up (q_up qn 0 16) 1 16) 2 2) 3 0) 4 0) 5 0) qu (q_up (q_up rd 3 0) 4 0) hn qd T2 K2 0 = _ from l1]; rfl
  rcases l3 with ⟨rfl, b1, t, b2, b3, b4⟩ | ⟨rfl, fm, LS⟩
  · have hr : f_X15_read md mt kn mf mm mr me mp pd po pq pr ps pt pe pc pw = some (1, q_up md1 3 (mf' t), kn', mf', mm', mr1, me', mp1, pd, po, pq, pr, ps1, pt1, pe1, pc1, pw1) := by
      unfold f_X15_read f_X15_isBarn
      rw [s2, Option.bind_some]
      dsimp only
      rw [l2, Option.bind_some, if_neg (show ¬ (1 : Nat) = 0 by decide), Option.bind_some, if_neg (fun y => y (show q_bz false = 0 from rfl))]
      dsimp only
      rw [b4, q_ix_nI (show t < 401 by omega) (by decide)]; rfl
    rw [b1] at hc
    refine ⟨_, _, _, _, _, _, _, _, _, _, _, _, _, _, _, _, _, _, _, _, _, _, _, _, _, _, _, _, _, _, hc, pos (by rw [b1]; decide) b2 b3, hr, fun j j3 j9 j10 => (m_up_n j3).trans (fr1 j j9 j10), Or.inl ⟨by decide, by decide, m_up_s.trans (tsmf t b2).symm⟩⟩
  · obtain ⟨-, h3, h9, h10, h0, H, oc, cs, op, ns, mq, pd2, po2, pq2, pr2, hH, hq3, hq5, a1, a2, a3, a3b, a4, a5, a6, a7, hS⟩ := LS
    have n5 : m_n5 mp1 mp mp1 := ⟨fun j hj => fm j (by omega) (by omega) (by omega), fun _ _ => rfl⟩
    have hbarn : f_X15_isBarn (q_up (q_up md 9 0) 10 0) mt kn' mf' mm' mr' mp ps pt pe pc pw = some (true, md1, mr1, mp1, ps1, pt1, pe1, pc1, pw1) := by
      unfold f_X15_isBarn
      rw [l2, Option.bind_some, if_pos rfl]
    have read1 : f_X15_read md mt kn mf mm mr me mp pd po pq pr ps pt pe pc pw = (f_X15_read_L31 mt kn' mf' mm' mr1 (nI n) 4096 (q_up md1 9 0) me' mp1 pd po pq pr).bind fun r13 => if r13.1 = 0 then (f_X15_read_L61 r13.2.2.2.1 r13.2.2.2.2.1 pw1 4096 pc1 0).bind fun r14 => some (0, r13.2.2.1, kn', mf', mm', mr1, r13.2.2.2.1, r13.2.2.2.2.1, r13.2.2.2.2.2.1, r13.2.2.2.2.2.2.1, r13.2.2.2.2.2.2.2.1, r13.2.2.2.2.2.2.2.2, ps1, pt1, pe1, r14, pw1) else (q_ix (r13.2.2.1 9) 401).bind fun j15 => some (r13.2.1, q_up r13.2.2.1 3 (mf' j15), kn', mf', mm', mr1, r13.2.2.2.1, r13.2.2.2.2.1, r13.2.2.2.2.2.1, r13.2.2.2.2.2.2.1, r13.2.2.2.2.2.2.2.1, r13.2.2.2.2.2.2.2.2, ps1, pt1, pe1, pc1, pw1) := by
      unfold f_X15_read
      rw [s2, Option.bind_some]
      dsimp only
      rw [hbarn, Option.bind_some, if_pos (show ¬ q_bz true = 0 by decide)]
      dsimp only
      rw [h9]
    have V5 : m_V5 mp1 (me', mp, pd, po, pq, pr) (me', mp1, pd, po, pq, pr) := ⟨rfl, rfl, n5⟩
    rcases hS with ⟨b1, b2, j, V, b3, b4, b5⟩ | ⟨b1, ve, vpc, b3, b4, b5, b6⟩
    · obtain ⟨⟨e', j', V'⟩, c1, c2, c3, c4⟩ := m_p2_5 V5 n _ b3
      have c2 : e' = rd' 4 := c2
      have c3 : j' = j := c3
      subst c2; subst c3
      obtain ⟨md', w1, w2⟩ := m_pass n400 c1 n 0 (q_up md1 9 0) _ 4096 (by omega) rfl m_up_s (by omega)
      rcases w2 with ⟨w2, -⟩ | ⟨-, w3, w2⟩
      · exact absurd w2 b1
      · have hr : f_X15_read md mt kn mf mm mr me mp pd po pq pr ps pt pe pc pw = some (rd' 4, q_up md' 3 (mf' j'), kn', mf', mm', mr1, V'.1, V'.2.1, V'.2.2.1, V'.2.2.2.1, V'.2.2.2.2.1, V'.2.2.2.2.2, ps1, pt1, pe1, pc1, pw1) := by
          dsimp only at w2
          rw [read1, w2, Option.bind_some, if_neg (show ¬ (1 : Nat) = 0 by decide)]
          dsimp only
          rw [w3, q_ix_nI (show j' < 401 by omega) (by decide)]; rfl
        have h0e := m_p2_pos b3
        refine ⟨_, _, _, _, _, _, _, _, _, _, _, _, _, _, _, _, _, _, _, _, _, _, _, _, _, _, _, _, _, _, hc, pos b1 (by omega) b4, hr, fun i j3 j9 j10 => (m_up_n j3).trans ((w1 i j9).trans ((m_up_n j9).trans (fr1 i j9 j10))), Or.inl ⟨b1, ?_, m_up_s.trans (tsmf j' (by omega)).symm⟩⟩
        rcases Int32.lt_or_eq_of_le h0e with g | g
        · exact g
        · exact absurd g.symm b1
    · obtain ⟨⟨e', j', V'⟩, c1, c2, c3, c4⟩ := m_p2_5 V5 n _ b3
      have c2 : e' = 0 := c2
      have c3 : j' = 0 := c3
      subst c2; subst c3
      obtain ⟨ve', mq', pd', po', pq', pr'⟩ := V'
      obtain ⟨d1, d2, d3⟩ := c4
      have d1 : ve' = ve := d1
      have d2 : (pd', po', pq', pr') = (pd2, po2, pq2, pr2) := d2
      have d3 : m_n5 mp1 mq mq' := d3
      obtain ⟨e1, e2, e3, e4⟩ : pd' = pd2 ∧ po' = po2 ∧ pq' = pq2 ∧ pr' = pr2 := by
        simp only [Prod.mk.injEq] at d2
        exact d2
      subst d1; subst e1; subst e2; subst e3; subst e4
      obtain ⟨md', w1, w2⟩ := m_pass n400 c1 n 0 (q_up md1 9 0) _ 4096 (by omega) rfl m_up_s (by omega)
      rcases w2 with ⟨-, w2⟩ | ⟨w2, -⟩
      · have mq16 : mq' 16 = nI op := (d3.2 16 (by decide)).trans a4
        obtain ⟨pc', y1, y2⟩ := m_patch (mp := mq') mq16 (by omega) (by omega) (by omega) b5
        obtain ⟨q1, ⟨m, hf, q2, q2', q2'', g1, g2, g3, g4, g5, g6, g7⟩, q3, q4, q5⟩ := b6
        have hr : f_X15_read md mt kn mf mm mr me mp pd po pq pr ps pt pe pc pw = some (0, md', kn', mf', mm', mr1, ve', mq', pd', po', pq', pr', ps1, pt1, pe1, pc', pw1) := by
          dsimp only at w2
          rw [read1, w2, Option.bind_some, if_pos rfl]
          dsimp only
          rw [y1]; rfl
        rw [b1] at hc
        have hp : f_X7_position rd' tk' ts' = some (-1) := by
          unfold f_X7_position
          rw [if_neg (fun y => y b1)]
        refine ⟨_, _, _, _, _, _, _, _, _, _, _, _, _, _, _, _, _, _, _, _, _, _, _, _, _, _, _, _, _, _, hc, hp, hr, fun i j3 j9 j10 => (w1 i j9).trans ((m_up_n j9).trans (fr1 i j9 j10)), Or.inr ⟨rfl, rfl, (w1 3 (by decide)).trans ((m_up_n (by decide)).trans (fr1 3 (by decide) (by decide))), H, m, hf, ns, oc, q2, q2', q2'', hH, ⟨g1, ?_, g3, ?_, ?_, g6, ?_⟩, q3, ?_, q1, hq5, by omega, fun k hk => ?_⟩⟩
        · rw [show mq' 1 = mq 1 from d3.1 1 (by decide)]; exact g2
        · rw [show mq' 2 = mq 2 from d3.1 2 (by decide)]; exact g4
        · rw [show mq' 3 = mq 3 from d3.1 3 (by decide)]; exact g5
        · rw [show mq' 0 = mq 0 from d3.1 0 (by decide)]; exact g7
        · rw [show mq' 4 = mq 4 from d3.1 4 (by decide)]; exact q4
        · exact m_Sq_Sk (m_Sq_congr (q5 k hk) (Nat.le_refl _) (Nat.le_refl _) (Nat.le_refl cs) rfl rfl rfl rfl rfl rfl rfl rfl rfl (fun _ _ => ⟨rfl, rfl⟩) (fun j hj => y2 j hj)) a3b
      · exact absurd rfl w2
end
