/-! MATH: a new hook; a line that sets something -/
section
variable {tp mt tk ts tl tv kn mf mm hn : m_Rr} {z n : Nat} {tg : Nat → Option Nat} {V0 : m_V} {H t : Nat} {qn qu rd md mr mp ps pt pe pc pw : m_Rr} {qd : Nat → Option Nat} {oc cs op s : Nat} {T2 : Nat → m_Rr} {K2 : Nat → Nat → Option Nat}
theorem m_blame {rd : m_Rr} {e p : Int32} : ∃ rd', f_X7_blame rd e p = some rd' ∧ rd' 3 = rd 3 ∧ (rd 4 ≠ 0 → rd' = rd) ∧ (rd 4 = 0 → rd' 4 = e ∧ rd' 5 = p) := by
  unfold f_X7_blame
  by_cases h : rd 4 = 0
  · rw [if_neg (fun y => y h)]
    exact ⟨_, rfl, (m_up_n (by decide)).trans (m_up_n (by decide)), fun hh => absurd h hh, fun _ => ⟨(m_up_n (by decide)).trans m_up_s, m_up_s⟩⟩
  · rw [if_pos h]
    exact ⟨_, rfl, rfl, fun _ => rfl, fun hh => absurd hh h⟩
theorem m_newL (hF : m_TF tp mt z n tk tg ts tl tv kn mf mm) (h : m_LS mt kn mf mm n tg tv V0 t qn qu rd hn qd T2 K2 md mr mp ps pt pe pc pw) (ht : t < n) :
    ∃ qn' rd' hn' ok md' mr', f_X7_readNewHook qn (q_up rd 3 (nI (t + 1))) hn tk tv tg = some (qn', rd', hn') ∧ f_X15_eatAs (q_up md 9 (nI (t + 1))) kn mr 40 1 = some (ok, md', mr') ∧ ((ok = false ∧ m_Bd n rd' md') ∨ (ok = true ∧ ∃ t', t < t' ∧ m_LS mt kn mf mm n tg tv V0 t' qn' qu rd' hn' qd T2 K2 md' mr' mp ps pt pe pc pw)) := by
  have n400 : n ≤ 400 := hF.2.2.1
  obtain ⟨h1, h3, h9, h10, h0, H, oc, cs, op, ns, mq, pd, po, pq, pr, hH, hq3, hq5, a1, a2, a3, a3b, a4, a5, a6, a7, hS⟩ := h
  have g3 : q_up rd 3 (nI (t + 1)) 3 = nI (t + 1) := m_up_s
  have g4 : q_up rd 3 (nI (t + 1)) 4 = rd 4 := m_up_n (by decide)
  have g9 : q_up md 9 (nI (t + 1)) 9 = nI (t + 1) := m_up_s
  have hS1 := m_St_0 (rd' := q_up rd 3 (nI (t + 1))) n400 hS ht (h0 t (Nat.le_refl _) h1) g4 (m_up_n (by decide))
  have hn1 := m_St_n1 hS1
  have h1' : t + 1 ≤ n := by omega
  obtain ⟨p, p1, p2, p3, -, -, -⟩ := m_sg hF h1'
  have ea : f_X15_eatAs (q_up md 9 (nI (t + 1))) kn mr 40 1 = some (if p = 3 then (true, q_up (q_up md 9 (nI (t + 1))) 9 (nI (t + 1 + 1)), q_up mr (t + 1) 1) else (false, q_up md 9 (nI (t + 1)), q_up mr (t + 1) 1)) := by
    unfold f_X15_eatAs
    rw [g9, q_ix_nI (show t + 1 < 401 by omega) (by decide), Option.bind_some, show (40 : Int32) = m_kd 3 from rfl, m_eatP g9 (by omega) p1 p3 (by decide)]
    by_cases e : p = 3
    · rw [if_pos e, if_pos e]; rfl
    · rw [if_neg e, if_neg e]; rfl
  rw [ea]
  unfold f_X7_readNewHook
  rw [m_takeP hF g3 hn1 h1' p2 (by decide), Option.bind_some]
  by_cases e : p = 3
  · subst e
    have ht' := m_lt hF h1' p2 (by decide)
    rw [if_pos rfl, if_pos rfl, if_pos (show ¬ q_bz true = 0 by decide)]
    dsimp only
    have cg : m_p2 mt kn mf mm (q_up mr (t + 1) 1) V0 (t + 1) = m_p2 mt kn mf mm mr V0 (t + 1) := m_p2_congr (by omega) (fun j hj => m_up_n (by omega))
    have k3 : q_up (q_up rd 3 (nI (t + 1))) 3 (nI (t + 1 + 1)) 3 = nI (t + 1 + 1) := m_up_s
    have k4 : q_up (q_up rd 3 (nI (t + 1))) 3 (nI (t + 1 + 1)) 4 = q_up rd 3 (nI (t + 1)) 4 := m_up_n (by decide)
    have k5 : q_up (q_up rd 3 (nI (t + 1))) 3 (nI (t + 1 + 1)) 5 = q_up rd 3 (nI (t + 1)) 5 := m_up_n (by decide)
    rw [k3, m_pre, m_tval hF h1', Option.bind_some, m_hookC hH hq3, Option.bind_some]
    have hle := (m_ix_le (v := tv (t + 1)) (hn := hn) (n := H) (h := 0)).2
    have errLS : ∀ (er : Int32) (rd' : m_Rr), rd' 3 = nI (t + 1 + 1) → er ≠ 0 → er ≠ 1 → (rd 4 ≠ 0 → rd' = q_up (q_up rd 3 (nI (t + 1))) 3 (nI (t + 1 + 1))) → (rd 4 = 0 → rd' 4 = er ∧ rd' 5 = nI (t + 1)) → (∀ ve mq pd po pq pr, m_Hk tg tv hn mr (t + 1) H → mq 0 = nI H → ∃ V, m_eo mt kn mf mm (q_up mr (t + 1) 1) (ve, mq, pd, po, pq, pr) (t + 1) = some (er, V)) → m_LS mt kn mf mm n tg tv V0 (t + 1 + 1) qn qu rd' hn qd T2 K2 (q_up (q_up md 9 (nI (t + 1))) 9 (nI (t + 1 + 1))) (q_up mr (t + 1) 1) mp ps pt pe pc pw := by
      intro er rd' w1 w2 w3 w4 w5 w6
      refine ⟨by omega, w1, m_up_s, (m_up_n (by decide)).trans ((m_up_n (by decide)).trans h10), fun k x1 x2 => (m_up_n (by omega)).trans (h0 k (by omega) x2), H, oc, cs, op, ns, mq, pd, po, pq, pr, hH, hq3, hq5, by omega, a2, by omega, a3b, a4, by omega, a6, by omega, Or.inl ?_⟩
      rcases hS1 with ⟨b1, b2, j, V, b3, b4, b5⟩ | ⟨b1, ve, vpc, b3, b4, b5, b6⟩
      · have r4 : rd' 4 = q_up rd 3 (nI (t + 1)) 4 := by rw [w4 (by rw [← g4]; exact b1), k4]
        have r5 : rd' 5 = q_up rd 3 (nI (t + 1)) 5 := by rw [w4 (by rw [← g4]; exact b1), k5]
        exact ⟨by rw [r4]; exact b1, by rw [r4]; exact b2, j, V, by rw [r4]; exact m_p2_err (cg.trans b3) b1, r5.trans b4, by omega⟩
      · obtain ⟨c1, c2⟩ := w5 (by rw [← g4]; exact b1)
        obtain ⟨-, ⟨m, hf, -, -, -, q2b⟩, -⟩ := b6
        obtain ⟨V, hV⟩ := w6 ve mq pd po pq pr b4 q2b.2.2.2.2.2.2
        exact ⟨by rw [c1]; exact w2, by rw [c1]; exact w3, t + 1, V, by rw [c1]; exact m_p2_bad (cg.trans b3) hV w2, c2, by omega⟩
    by_cases hx : m_ix (tv (t + 1)) hn H 0 = H
    · rw [if_pos hx, if_pos rfl, hq3, if_neg (nI_pos (by omega))]
      by_cases h6 : H < 6
      · rw [if_pos (show nI H < (6 : Int32) from nI_lt (b := 6) h6 (by decide)), q_ix_nI h6 (by decide), Option.bind_some, nI_1]
        refine ⟨_, _, _, _, _, _, rfl, rfl, Or.inr ⟨rfl, t + 1 + 1, by omega, by omega, k3, m_up_s, (m_up_n (by decide)).trans ((m_up_n (by decide)).trans h10), fun k x1 x2 => (m_up_n (by omega)).trans (h0 k (by omega) x2), H + 1, oc, cs, op, ns, q_up mq 0 (nI (H + 1)), pd, po, pq, pr, by omega, m_up_s, (m_up_n (by decide)).trans hq5, by omega, a2, by omega, a3b, a4, by omega, a6, by omega, ?_⟩⟩
        rcases hS1 with ⟨b1, b2, j, V, b3, b4, b5⟩ | ⟨b1, ve, vpc, b3, b4, b5, b6⟩
        · exact Or.inl ⟨by rw [k4]; exact b1, by rw [k4]; exact b2, j, V, by rw [k4]; exact m_p2_err (cg.trans b3) b1, k5.trans b4, by omega⟩
        · obtain ⟨q1, ⟨m, hf, q2, q2', q2'', q2b⟩, q3, q4, q5⟩ := b6
          obtain ⟨e1, e2, e3, e4, e5, e6, e7⟩ := q2b
          have ev := m_eo1 (ve := ve) (mq := mq) (pd := pd) (po := po) (pq := pq) (pr := pr) hF b4 ht' p2 e7
          rw [if_pos hx, if_neg (show ¬ H = 6 by omega)] at ev
          refine Or.inr ⟨k4.trans b1, ve, vpc, m_p2_ok (cg.trans b3) ev, m_Hk_new b4 h6 p2, m_Pt_s b5 (fun _ _ => rfl), q1, ⟨m, hf, q2, q2', q2'', (m_up_n (by decide)).trans e1, (m_up_n (by decide)).trans e2, (m_up_n (by decide)).trans e3, (m_up_n (by decide)).trans e4, (m_up_n (by decide)).trans (e5.trans (m_up_n (by decide)).symm), m_up_s, m_up_s⟩, (m_up_n (by decide)).trans q3, (m_up_n (by decide)).trans q4, fun k hk => m_Sq_congr (q5 k hk) (by omega) (Nat.le_refl _) (Nat.le_refl _) rfl rfl rfl rfl rfl rfl rfl rfl rfl (fun _ _ => ⟨rfl, rfl⟩) (fun _ _ => rfl)⟩
      · obtain rfl : H = 6 := by omega
        obtain ⟨rd', c1, c2, c3, c4⟩ := m_blame (rd := q_up (q_up rd 3 (nI (t + 1))) 3 (nI (t + 1 + 1))) (e := 4) (p := nI (t + 1))
        rw [if_neg (show ¬ nI 6 < (6 : Int32) by decide), c1]
        refine ⟨_, _, _, _, _, _, rfl, rfl, Or.inr ⟨rfl, t + 1 + 1, by omega, errLS 4 rd' (c2.trans k3) (by decide) (by decide) (fun w => c3 (by rw [k4, g4]; exact w)) (fun w => c4 (by rw [k4, g4]; exact w)) (fun ve mq pd po pq pr hK hm => ?_)⟩⟩
        rw [m_eo1 hF hK ht' p2 hm, if_pos hx, if_pos rfl]
        exact ⟨_, rfl⟩
    · obtain ⟨rd', c1, c2, c3, c4⟩ := m_blame (rd := q_up (q_up rd 3 (nI (t + 1))) 3 (nI (t + 1 + 1))) (e := 2) (p := nI (t + 1))
      rw [if_neg hx, if_neg (m_nI_m1 (by omega)), c1]
      refine ⟨_, _, _, _, _, _, rfl, rfl, Or.inr ⟨rfl, t + 1 + 1, by omega, errLS 2 rd' (c2.trans k3) (by decide) (by decide) (fun w => c3 (by rw [k4, g4]; exact w)) (fun w => c4 (by rw [k4, g4]; exact w)) (fun ve mq pd po pq pr hK hm => ?_)⟩⟩
      rw [m_eo1 hF hK ht' p2 hm, if_neg hx]
      exact ⟨_, rfl⟩
  · rw [if_neg e, if_neg e, if_neg (show ¬ ¬ q_bz false = 0 from fun y => y rfl)]
    exact ⟨_, _, _, _, _, _, rfl, rfl, Or.inl ⟨rfl, m_fl_4 (rd := q_up rd 3 (nI (t + 1))), t + 1, h1', (m_fl_5 (rd := q_up rd 3 (nI (t + 1)))).trans g3, g9⟩⟩
theorem m_swH1 : ∀ s, s < 49 → s ∈ [5, 6, 7, 8] ∨ ¬ q_sw s ∈ ([1, 2, 3, 4] : List Int32) := by decide
theorem m_kdS : ∀ s, s < 49 → s ≠ 0 → s ∈ [5, 6, 7, 8, 9, 10, 11, 12, 13] ∨ (m_kd s ≠ 4 ∧ m_kd s ≠ 7 ∧ m_kd s ≠ 10 ∧ m_kd s ≠ 11 ∧ m_kd s ≠ 14 ∧ ¬ m_kd s ≤ 3) := by decide
/-- a line that sets something, or none at all -/
theorem m_setL (hF : m_TF tp mt z n tk tg ts tl tv kn mf mm) (h : m_LS mt kn mf mm n tg tv V0 t qn qu rd hn qd T2 K2 md mr mp ps pt pe pc pw) (hs : tg t = some s) (h913 : ¬ (9 ≤ s ∧ s ≤ 13)) (hs0 : s ≠ 0) :
    ∃ qn' rd' hn' ok md' mr', f_X7_readSetting qn rd hn tk tv tg = some (qn', rd', hn') ∧ f_X15_isLine md mt kn mf mm mr mp ps pt pe pc pw = some (ok, md', mr', mp, ps, pt, pe, pc, pw) ∧ ((ok = false ∧ m_Bd n rd' md') ∨ (ok = true ∧ ∃ t', t < t' ∧ m_LS mt kn mf mm n tg tv V0 t' qn' qu rd' hn' qd T2 K2 md' mr' mp ps pt pe pc pw)) := by
  have n400 : n ≤ 400 := hF.2.2.1
  have h0 := h
  obtain ⟨h1, h3, h9, h10, -, H, oc, cs, op, ns, mq, pd, po, pq, pr, -, -, -, -, -, -, -, -, -, -, -, hS⟩ := h0
  have hn1 := m_St_n1 hS
  clear hS
  obtain ⟨s', s1, s2', s3, -, -, -⟩ := m_sg hF h1
  obtain rfl : s' = s := Option.some.inj (s2'.symm.trans hs)
  obtain ⟨b1, b2⟩ := m_signP hF h3 hn1 h1 hs
  by_cases c5 : s' = 5
  · subst c5
    have ht := m_lt hF h1 hs (by decide)
    obtain ⟨v, rd', ok, md', mr', e1, e2, e3⟩ := m_setN hF h ht (r := 6) (lo := 8) (hi := 64) (i := 0) (i' := 1) (by decide) (by decide) (by decide) (by decide) (fun ve mq pd po pq pr x1 x2 => m_eo6 hF x1 x2) (fun H m hf mq v x1 x2 x3 x4 x5 x6 => by
      obtain ⟨e1, e2, e3, e4, e5, e6, e7⟩ := x6
      obtain ⟨r, r1, r2⟩ := m_inN (lo := 8) (hi := 64) (b := 64) (by decide) x1 x2 rfl (by decide)
      refine ⟨m, r, ?_, r1, x5, by rw [m_up_s, r2], by rw [m_up_s, r2], (m_up_n (by decide)).trans e3, (m_up_n (by decide)).trans e4, (m_up_n (by decide)).trans (e5.trans (m_up_n (by decide)).symm), (m_up_n (by decide)).trans e6, (m_up_n (by decide)).trans e7⟩
      rcases Nat.lt_or_ge r 8 with g | g
      · exact absurd x1 (by rw [r2]; exact Int32.not_le.mpr (nI_lt (b := 8) g (by decide)))
      · exact g)
    have hc : f_X7_readSetting qn rd hn tk tv tg = (f_X7_readNumber (q_up rd 3 (nI (t + 1))) tk tv tg 8 64).bind fun r5 => some (q_up qn 0 r5.1, r5.2, hn) := by
      unfold f_X7_readSetting
      rw [b1, Option.bind_some, m_e49 b2, Option.bind_some, q_ix_nI b2 (by decide), Option.bind_some, h3, nI_1]; rfl
    have hr : f_X15_isLine md mt kn mf mm mr mp ps pt pe pc pw = (f_X15_eatAs (q_up md 9 (nI (t + 1))) kn mr 41 6).bind fun r17 => some (r17.1, r17.2.1, r17.2.2, mp, ps, pt, pe, pc, pw) := by
      unfold f_X15_isLine
      rw [h9, q_ix_nI (show t < 401 by omega) (by decide), Option.bind_some, s3, nI_1]; rfl
    rw [hc, hr, e1, e2]
    exact ⟨_, _, _, _, _, _, rfl, rfl, e3⟩
  · by_cases c6 : s' = 6
    · subst c6
      have ht := m_lt hF h1 hs (by decide)
      obtain ⟨v, rd', ok, md', mr', e1, e2, e3⟩ := m_setN hF h ht (r := 7) (lo := 0) (hi := 64) (i := 1) (i' := 2) (by decide) (by decide) (by decide) (by decide) (fun ve mq pd po pq pr x1 x2 => m_eo7 hF x1 x2) (fun H m hf mq v x1 x2 x3 x4 x5 x6 => by
        obtain ⟨e1, e2, e3, e4, e5, e6, e7⟩ := x6
        obtain ⟨r, r1, r2⟩ := m_inN (lo := 0) (hi := 64) (b := 64) (by decide) x1 x2 rfl (by decide)
        exact ⟨r, hf, x3, x4, r1, (m_up_n (by decide)).trans e1, (m_up_n (by decide)).trans e2, by rw [m_up_s, r2], by rw [m_up_s, r2], (m_up_n (by decide)).trans (e5.trans (m_up_n (by decide)).symm), (m_up_n (by decide)).trans e6, (m_up_n (by decide)).trans e7⟩)
      have hc : f_X7_readSetting qn rd hn tk tv tg = (f_X7_readNumber (q_up rd 3 (nI (t + 1))) tk tv tg 0 64).bind fun r5 => some (q_up qn 1 r5.1, r5.2, hn) := by
        unfold f_X7_readSetting
        rw [b1, Option.bind_some, m_e49 b2, Option.bind_some, q_ix_nI b2 (by decide), Option.bind_some, h3, nI_1]; rfl
      have hr : f_X15_isLine md mt kn mf mm mr mp ps pt pe pc pw = (f_X15_eatAs (q_up md 9 (nI (t + 1))) kn mr 41 7).bind fun r17 => some (r17.1, r17.2.1, r17.2.2, mp, ps, pt, pe, pc, pw) := by
        unfold f_X15_isLine
        rw [h9, q_ix_nI (show t < 401 by omega) (by decide), Option.bind_some, s3, nI_1]; rfl
      rw [hc, hr, e1, e2]
      exact ⟨_, _, _, _, _, _, rfl, rfl, e3⟩
    · by_cases c7 : s' = 7
      · subst c7
        have ht := m_lt hF h1 hs (by decide)
        obtain ⟨v, rd', ok, md', mr', e1, e2, e3⟩ := m_setN hF h ht (r := 8) (lo := 0) (hi := 5) (i := 2) (i' := 3) (by decide) (by decide) (by decide) (by decide) (fun ve mq pd po pq pr x1 x2 => m_eo8 hF x1 x2) (fun H m hf mq v x1 x2 x3 x4 x5 x6 => by
          obtain ⟨e1, e2, e3, e4, e5, e6, e7⟩ := x6
          exact ⟨m, hf, x3, x4, x5, (m_up_n (by decide)).trans e1, (m_up_n (by decide)).trans e2, (m_up_n (by decide)).trans e3, (m_up_n (by decide)).trans e4, by rw [m_up_s, m_up_s], (m_up_n (by decide)).trans e6, (m_up_n (by decide)).trans e7⟩)
        have hc : f_X7_readSetting qn rd hn tk tv tg = (f_X7_readNumber (q_up rd 3 (nI (t + 1))) tk tv tg 0 5).bind fun r5 => some (q_up qn 2 r5.1, r5.2, hn) := by
          unfold f_X7_readSetting
          rw [b1, Option.bind_some, m_e49 b2, Option.bind_some, q_ix_nI b2 (by decide), Option.bind_some, h3, nI_1]; rfl
        have hr : f_X15_isLine md mt kn mf mm mr mp ps pt pe pc pw = (f_X15_eatAs (q_up md 9 (nI (t + 1))) kn mr 41 8).bind fun r17 => some (r17.1, r17.2.1, r17.2.2, mp, ps, pt, pe, pc, pw) := by
          unfold f_X15_isLine
          rw [h9, q_ix_nI (show t < 401 by omega) (by decide), Option.bind_some, s3, nI_1]; rfl
        rw [hc, hr, e1, e2]
        exact ⟨_, _, _, _, _, _, rfl, rfl, e3⟩
      · by_cases c8 : s' = 8
        · subst c8
          have ht := m_lt hF h1 hs (by decide)
          obtain ⟨qn', rd', hn', ok, md', mr', e1, e2, e3⟩ := m_newL hF h ht
          have hc : f_X7_readSetting qn rd hn tk tv tg = (f_X7_readNewHook qn (q_up rd 3 (nI (t + 1))) hn tk tv tg).bind fun r8 => some (r8.1, r8.2.1, r8.2.2) := by
            unfold f_X7_readSetting
            rw [b1, Option.bind_some, m_e49 b2, Option.bind_some, q_ix_nI b2 (by decide), Option.bind_some, h3, nI_1]; rfl
          have hr : f_X15_isLine md mt kn mf mm mr mp ps pt pe pc pw = (f_X15_eatAs (q_up md 9 (nI (t + 1))) kn mr 40 1).bind fun r17 => some (r17.1, r17.2.1, r17.2.2, mp, ps, pt, pe, pc, pw) := by
            unfold f_X15_isLine
            rw [h9, q_ix_nI (show t < 401 by omega) (by decide), Option.bind_some, s3, nI_1]; rfl
          rw [hc, hr, e1, e2]
          exact ⟨_, _, _, _, _, _, rfl, rfl, e3⟩
        · have nsw : ∀ {x : Int32}, x ∈ ([1, 2, 3, 4] : List Int32) → q_sw s' ≠ x := fun hx => by
            rcases m_swH1 s' s1 with g | g
            · simp only [List.mem_cons, List.not_mem_nil, or_false] at g
              omega
            · exact fun e => g (by rw [e]; exact hx)
          have nk : m_kd s' ≠ 4 ∧ m_kd s' ≠ 7 ∧ m_kd s' ≠ 10 ∧ m_kd s' ≠ 11 ∧ m_kd s' ≠ 14 ∧ ¬ m_kd s' ≤ 3 := by
            rcases m_kdS s' s1 hs0 with g | g
            · simp only [List.mem_cons, List.not_mem_nil, or_false] at g
              omega
            · exact g
          have hc : f_X7_readSetting qn rd hn tk tv tg = some (qn, m_fl rd, hn) := by
            unfold f_X7_readSetting
            rw [b1, Option.bind_some, m_e49 b2, Option.bind_some, q_ix_nI b2 (by decide), Option.bind_some, if_neg (nsw (x := 1) (by decide)), if_neg (nsw (x := 2) (by decide)), if_neg (nsw (x := 3) (by decide)), if_neg (nsw (x := 4) (by decide)), m_failP hn1]; rfl
          have hr : f_X15_isLine md mt kn mf mm mr mp ps pt pe pc pw = some (false, md, mr, mp, ps, pt, pe, pc, pw) := by
            unfold f_X15_isLine
            rw [h9, q_ix_nI (show t < 401 by omega) (by decide), Option.bind_some, s3, if_neg nk.1, if_neg nk.2.1, if_neg nk.2.2.1, if_neg nk.2.2.2.1, if_pos nk.2.2.2.2.1, if_neg nk.2.2.2.2.2]
          rw [hc, hr]
          exact ⟨_, _, _, _, _, _, rfl, rfl, Or.inl ⟨rfl, m_fl_4 (rd := rd), t, h1, (m_fl_5 (rd := rd)).trans h3, h9⟩⟩
end
