/-! MATH: what stands behind the first hook of a step, kind by kind -/
def m_RkS (x1 H s : Nat) (T' : Nat → m_Rr) (pq' pr' : m_Rr) (qd' : Nat → Option Nat) (qu' v : m_Rr) (oc oc' cs cs' : Nat) : Prop :=
  (x1 = 9 ∧ T' s 4 = nI oc ∧ T' s 5 = nI oc' ∧ m_Cd (m_N H v) qd' qu' v (oc' - oc) oc cs 0 cs' 1 ∧ ∃ r, r ≤ 3 ∧ T' s 3 = nI r ∧ pr' s = nI r) ∨
  (oc' = oc ∧ cs' = cs ∧ ((x1 = 10 ∧ ∃ y, y < H ∧ T' s 2 = nI y ∧ pq' s = nI y ∧ T' s 3 = pr' s) ∨ (x1 = 11 ∧ T' s 3 = pr' s) ∨ (x1 = 12 ∧ ∃ y, y < H ∧ T' s 2 = nI y ∧ pq' s = nI y ∧ T' s 3 = pr' s) ∨ x1 = 13))
def m_RO (mt kn mf mm : m_Rr) (n : Nat) (tg : Nat → Option Nat) (tv hn : m_Rr) (V0 : m_V) (mq pd po pq pr : m_Rr) (H t s x1 : Nat) (qn qu : m_Rr) (qd : Nat → Option Nat) (T : Nat → m_Rr) (mp : m_Rr) (oc cs : Nat) (Q : m_Rr → Prop) (rc : Option (m_Rr × m_Rr × m_Rr × (Nat → Option Nat) × (Nat → m_Rr))) (rr : Option (Bool × m_PY)) : Prop :=
  ∃ qn' qu' rd' qd' T' ok md' mr' mp' pc' pw', rc = some (qn', qu', rd', qd', T') ∧ rr = some (ok, md', mr', mp', pc', pw') ∧
  ((ok = false ∧ m_Bd n rd' md') ∨ (ok = true ∧ (∀ j, j ≠ 5 → qn' j = qn j) ∧ (∀ j, j ≠ 14 → j ≠ 16 → mp' j = mp j) ∧ (∀ k, k ≠ s → T' k = T k) ∧ T' s 1 = T s 1 ∧ T' s 6 = T s 6 ∧ T' s 7 = T s 7 ∧ ∃ pq' pr' oc' cs' op' t', t ≤ t' ∧ oc ≤ oc' ∧ cs ≤ cs' ∧ (∀ k, k ≠ s → pq' k = pq k ∧ pr' k = pr k) ∧ m_LM mt kn mf mm n tg tv hn V0 (mq, pd, po, pq', pr') H t' qn' rd' md' mr' mp' pc' pw' oc' cs' op' (fun v => ∃ v0, Q v0 ∧ (∀ j, j < cs → v j = v0 j) ∧ (∀ i, i < oc → qd' i = qd i ∧ qu' i = qu i) ∧ m_RkS x1 H s T' pq' pr' qd' qu' v oc oc' cs cs')))
section
variable {tp mt tk ts tl tv kn mf mm hn : m_Rr} {z n : Nat} {tg : Nat → Option Nat} {V0 : m_V} {mq pd po pq pr : m_Rr} {H t : Nat} {qn qu rd md mr mp pc pw : m_Rr} {qd : Nat → Option Nat} {oc cs op s : Nat} {Q Q' : m_Rr → Prop} {W : m_Rr × m_Rr × m_Rr × m_Rr × m_Rr} {T : Nat → m_Rr}
theorem m_LM_m (h : m_LM mt kn mf mm n tg tv hn V0 W H t qn rd md mr mp pc pw oc cs op Q) (hQ : ∀ v, Q v → Q' v) : m_LM mt kn mf mm n tg tv hn V0 W H t qn rd md mr mp pc pw oc cs op Q' := by
  obtain ⟨h1, h3, h9, h10, h0, hH, hq3, hq5, a1, a2, a3, a4, a5, hS⟩ := h
  exact ⟨h1, h3, h9, h10, h0, hH, hq3, hq5, a1, a2, a3, a4, a5, m_St_m hS hQ⟩
theorem m_rope3 {v : Int32} (h0 : 0 ≤ v) (h3 : v ≤ 3) : ∃ r, r ≤ 3 ∧ v = nI r := by
  obtain ⟨r, r1, r2⟩ := nI_of (x := v) (Int32.not_lt.mpr h0)
  refine ⟨r, ?_, r2⟩
  rcases Nat.lt_or_ge 3 r with h | h
  · exact absurd (show v ≤ nI 3 from h3) (by rw [r2]; exact Int32.not_le.mpr (nI_lt h r1))
  · exact h
theorem m_top (hF : m_TF tp mt z n tk tg ts tl tv kn mf mm) (Z : m_Z) : m_PP mt kn mf mm n tk tg tv hn V0 W Z H 0 (f_X7_readSum (k_readValue 12) (k_readSum 12)) (f_X15_isSum (k_isValue 12) (k_isSum 12)) ∧ m_PP mt kn mf mm n tk tg tv hn V0 W Z H 0 (f_X7_readTest (k_readSingle 12) (k_readTest 12) (k_readValue 12) (k_readSum 12)) (f_X15_isTest (k_isSingle 12) (k_isTest 12) (k_isValue 12) (k_isSum 12)) := by
  obtain ⟨-, h2, -, h4⟩ := m_knot (V0 := V0) (W := W) (Z := Z) (H := H) (hn := hn) hF 13 0 (by decide) (by decide)
  exact ⟨h2, h4⟩
/-- a rope of a step, on both sides -/
theorem m_LM_rope (hF : m_TF tp mt z n tk tg ts tl tv kn mf mm) (h : m_LM mt kn mf mm n tg tv hn V0 (mq, pd, po, pq, pr) H t qn rd md mr mp pc pw oc cs op Q) (hQ : ∀ v, Q v → mq 4 = nI (s + 1) ∧ s < 20) {x : Nat} {c : Int32} (hx : x < 49) (hx2 : 2 ≤ x) (hc : c = m_kd x) :
    ∃ v rd' ok1 md1, f_X7_readRope rd tk tv tg x = some (v, rd') ∧ f_X15_eat md kn c = some (ok1, md1) ∧ ((ok1 = false ∧ m_Bd n rd' md1) ∨ (ok1 = true ∧ ∃ ok md' mr', f_X15_eatAs md1 kn mr 41 9 = some (ok, md', mr') ∧ ((ok = false ∧ m_Bd n rd' md') ∨ (ok = true ∧ m_LM mt kn mf mm n tg tv hn V0 (mq, pd, po, pq, q_up pr s v) H (t + 1 + 1) qn rd' md' mr' mp pc pw oc cs op (fun y => Q y ∧ 0 ≤ v ∧ v ≤ 3))))) := by
  obtain ⟨ok1, rd1, md1, e1, e2, e3⟩ := m_LM_take hF h hx hx2 hc
  have er : f_X7_readRope rd tk tv tg x = (f_X7_readNumber rd1 tk tv tg 0 3).bind fun r2 => some (r2.1, r2.2) := by
    unfold f_X7_readRope
    rw [m_e49 hx, Option.bind_some, e1, Option.bind_some]
  rw [er]
  rcases e3 with ⟨rfl, e3⟩ | ⟨rfl, e3⟩
  · rw [m_numE e3.1]
    exact ⟨_, _, _, _, rfl, e2, Or.inl ⟨rfl, e3⟩⟩
  · obtain ⟨v, rd', ok, md', g1, g2, g3⟩ := m_LM_num hF e3 hQ
    rw [g1]
    exact ⟨_, _, _, _, rfl, e2, Or.inr ⟨rfl, _, _, _, g2, g3⟩⟩
/-- MAKE -/
theorem m_rest9 (hF : m_TF tp mt z n tk tg ts tl tv kn mf mm) (h : m_LM mt kn mf mm n tg tv hn V0 (mq, pd, po, pq, pr) H t qn rd md mr mp pc pw oc cs op Q) (hQ : ∀ v, Q v → mq 4 = nI (s + 1) ∧ s < 20) : m_RO mt kn mf mm n tg tv hn V0 mq pd po pq pr H t s 9 qn qu qd T mp oc cs Q (m_cR hn tk tv tg 9 s qn qu rd qd T) (f_X15_isRest md mt kn mf mm mr mp pc pw 4) := by
  have hTop := fun Z => (m_top (V0 := V0) (W := (mq, pd, po, pq, pr)) (H := H) (hn := hn) hF Z).1
  obtain ⟨ok1, rd1, md1, e1, e2, e3⟩ := m_LM_take hF h (x := 25) (c := 5) (by decide) (by decide) rfl
  unfold m_cR f_X15_isRest
  rw [if_pos rfl, if_pos rfl, e1, e2, Option.bind_some, Option.bind_some]
  rcases e3 with ⟨rfl, e3⟩ | ⟨rfl, e3⟩
  · rw [if_pos (show q_bz false = 0 from rfl)]
    dsimp only
    rw [(hTop (qd, qu, qn, True)).1 _ _ _ _ _ e3.1, Option.bind_some]
    dsimp only
    rw [m_ropeE e3.1 (by decide) (by decide)]
    exact ⟨_, _, _, _, _, _, _, _, _, _, _, rfl, rfl, Or.inl ⟨rfl, e3⟩⟩
  · obtain ⟨qn', qu', rd', qd', ok, md', mr', mp', pc', pw', g1, g2, g3, g4, g5⟩ := m_LM_ex (qu := qu) (qd := qd) hF e3 hTop
    rw [if_neg (show ¬ q_bz true = 0 by decide)]
    dsimp only
    rw [g1, g2, Option.bind_some, Option.bind_some]
    dsimp only
    rcases g5 with ⟨rfl, g5⟩ | ⟨rfl, oc', cs', op', t', t1, t2, t3, g5⟩
    · rw [m_ropeE g5.1 (by decide) (by decide), if_pos (show q_bz false = 0 from rfl)]
      exact ⟨_, _, _, _, _, _, _, _, _, _, _, rfl, rfl, Or.inl ⟨rfl, g5⟩⟩
    · obtain ⟨v, rd2, ok1, md2, p1, p2, p3⟩ := m_LM_rope (s := s) hF g5 (fun v q => by obtain ⟨v0, q0, -⟩ := q; exact hQ v0 q0) (x := 14) (c := 6) (by decide) (by decide) rfl
      rw [p1, Option.bind_some, if_neg (show ¬ q_bz true = 0 by decide), p2, Option.bind_some]
      rcases p3 with ⟨rfl, p3⟩ | ⟨rfl, ok2, md3, mr3, p4, p5⟩
      · rw [if_pos (show q_bz false = 0 from rfl)]
        exact ⟨_, _, _, _, _, _, _, _, _, _, _, rfl, rfl, Or.inl ⟨rfl, p3⟩⟩
      · rw [if_neg (show ¬ q_bz true = 0 by decide)]
        dsimp only
        rw [p4, Option.bind_some]
        rcases p5 with ⟨rfl, p5⟩ | ⟨rfl, p5⟩
        · rw [if_pos (show q_bz false = 0 from rfl)]
          exact ⟨_, _, _, _, _, _, _, _, _, _, _, rfl, rfl, Or.inl ⟨rfl, p5⟩⟩
        · rw [if_neg (show ¬ q_bz true = 0 by decide)]
          refine ⟨_, _, _, _, _, _, _, _, _, _, _, rfl, rfl, Or.inr ⟨rfl, g3, g4, fun k hk => ?_, ?_, ?_, ?_, pq, q_up pr s v, oc', cs', op', t' + 1 + 1, by omega, t2, t3, fun k hk => ⟨rfl, m_up_n hk⟩, m_LM_m p5 (fun y q => ?_)⟩⟩
          · rw [m_u2_j hk, m_u2_j hk, m_u2_j hk]
          · rw [m_u2_i (by decide), m_u2_i (by decide), m_u2_i (by decide)]
          · rw [m_u2_i (by decide), m_u2_i (by decide), m_u2_i (by decide)]
          · rw [m_u2_i (by decide), m_u2_i (by decide), m_u2_i (by decide)]
          · obtain ⟨⟨v0, q1, q2, q3, q4⟩, v1, v2⟩ := q
            obtain ⟨r, r1, r2⟩ := m_rope3 v1 v2
            obtain ⟨-, -, -, -, -, -, -, hq5, -⟩ := h
            obtain ⟨-, -, -, -, -, -, -, hq5', -⟩ := g5
            refine ⟨v0, q1, q2, q3, Or.inl ⟨rfl, ?_, ?_, q4, r, r1, ?_, ?_⟩⟩
            · rw [m_u2_i (by decide), m_u2_i (by decide), m_u2_s, hq5]
            · rw [m_u2_i (by decide), m_u2_s, hq5']
            · rw [m_u2_s, r2]
            · rw [m_up_s, r2]
/-- TIE -/
theorem m_rest10 (hF : m_TF tp mt z n tk tg ts tl tv kn mf mm) (h : m_LM mt kn mf mm n tg tv hn V0 (mq, pd, po, pq, pr) H t qn rd md mr mp pc pw oc cs op Q) (hQ : ∀ v, Q v → mq 4 = nI (s + 1) ∧ s < 20) : m_RO mt kn mf mm n tg tv hn V0 mq pd po pq pr H t s 10 qn qu qd T mp oc cs Q (m_cR hn tk tv tg 10 s qn qu rd qd T) (f_X15_isRest md mt kn mf mm mr mp pc pw 7) := by
  obtain ⟨v, rd2, ok1, md2, p1, p2, p3⟩ := m_LM_rope (s := s) hF h hQ (x := 15) (c := 8) (by decide) (by decide) rfl
  unfold m_cR f_X15_isRest f_X15_isRope
  rw [if_neg (by decide), if_pos rfl, if_neg (show ¬ (7 : Int32) = 4 by decide), if_neg (show ¬ (7 : Int32) = 5 by decide), if_neg (show ¬ (7 : Int32) = 6 by decide), if_pos rfl, p1, p2, Option.bind_some, Option.bind_some]
  dsimp only
  rcases p3 with ⟨rfl, p3⟩ | ⟨rfl, ok2, md3, mr3, p4, p5⟩
  · rw [if_pos (show q_bz false = 0 from rfl), Option.bind_some, m_takeE p3.1 (by decide) (by decide), Option.bind_some, if_pos (show q_bz false = 0 from rfl)]
    dsimp only
    rw [m_hookE p3.1]
    exact ⟨_, _, _, _, _, _, _, _, _, _, _, rfl, rfl, Or.inl ⟨rfl, p3⟩⟩
  · rw [if_neg (show ¬ q_bz true = 0 by decide), p4, Option.bind_some]
    rcases p5 with ⟨rfl, p5⟩ | ⟨rfl, p5⟩
    · rw [if_pos (show q_bz false = 0 from rfl), Option.bind_some, m_takeE p5.1 (by decide) (by decide), Option.bind_some, if_pos (show q_bz false = 0 from rfl)]
      dsimp only
      rw [m_hookE p5.1]
      exact ⟨_, _, _, _, _, _, _, _, _, _, _, rfl, rfl, Or.inl ⟨rfl, p5⟩⟩
    · obtain ⟨ok3, rd3, md4, e1, e2, e3⟩ := m_LM_take hF p5 (x := 16) (c := 9) (by decide) (by decide) rfl
      rw [if_neg (show ¬ q_bz true = 0 by decide), Option.bind_some, e1, Option.bind_some, if_neg (show ¬ q_bz true = 0 by decide)]
      dsimp only
      rw [e2, Option.bind_some]
      rcases e3 with ⟨rfl, e3⟩ | ⟨rfl, e3⟩
      · rw [m_hookE e3.1, if_pos (show q_bz false = 0 from rfl)]
        exact ⟨_, _, _, _, _, _, _, _, _, _, _, rfl, rfl, Or.inl ⟨rfl, e3⟩⟩
      · obtain ⟨hv, rd5, ok5, md5, f1, f2, f3, f4⟩ := m_LM_hook hF (r := 4) (by decide) (fun y => (mq, pd, po, q_up pq s y, q_up pr s v)) e3 (fun v' ve ht hs k q => m_eo4 hF k ht hs (hQ _ q.1).1 (hQ _ q.1).2)
        rw [f1, Option.bind_some, if_neg (show ¬ q_bz true = 0 by decide)]
        dsimp only
        rw [f2, Option.bind_some]
        rcases f4 with ⟨rfl, f4⟩ | ⟨rfl, f4⟩
        · rw [if_pos (show q_bz false = 0 from rfl)]
          exact ⟨_, _, _, _, _, _, _, _, _, _, _, rfl, rfl, Or.inl ⟨rfl, f4⟩⟩
        · rw [if_neg (show ¬ q_bz true = 0 by decide)]
          refine ⟨_, _, _, _, _, _, _, _, _, _, _, rfl, rfl, Or.inr ⟨rfl, fun _ _ => rfl, fun _ _ _ => rfl, fun k hk => ?_, ?_, ?_, ?_, q_up pq s (nI hv), q_up pr s v, oc, cs, op, _, by omega, Nat.le_refl _, Nat.le_refl _, fun k hk => ⟨m_up_n hk, m_up_n hk⟩, m_LM_m f4 (fun y q => ?_)⟩⟩
          · rw [m_u2_j hk, m_u2_j hk]
          · rw [m_u2_i (by decide), m_u2_i (by decide)]
          · rw [m_u2_i (by decide), m_u2_i (by decide)]
          · rw [m_u2_i (by decide), m_u2_i (by decide)]
          · refine ⟨y, q.1.1, fun _ _ => rfl, fun _ _ => ⟨rfl, rfl⟩, Or.inr ⟨rfl, rfl, Or.inl ⟨rfl, hv, q.2, ?_, ?_, ?_⟩⟩⟩
            · rw [m_u2_s]
            · rw [m_up_s]
            · rw [m_u2_i (by decide), m_u2_s, m_up_s]
/-- UNTIE -/
theorem m_rest11 (hF : m_TF tp mt z n tk tg ts tl tv kn mf mm) (h : m_LM mt kn mf mm n tg tv hn V0 (mq, pd, po, pq, pr) H t qn rd md mr mp pc pw oc cs op Q) (hQ : ∀ v, Q v → mq 4 = nI (s + 1) ∧ s < 20) : m_RO mt kn mf mm n tg tv hn V0 mq pd po pq pr H t s 11 qn qu qd T mp oc cs Q (m_cR hn tk tv tg 11 s qn qu rd qd T) (f_X15_isRest md mt kn mf mm mr mp pc pw 10) := by
  obtain ⟨v, rd2, ok1, md2, p1, p2, p3⟩ := m_LM_rope (s := s) hF h hQ (x := 15) (c := 8) (by decide) (by decide) rfl
  unfold m_cR f_X15_isRest f_X15_isRope
  rw [if_neg (by decide), if_neg (by decide), if_pos rfl, if_neg (show ¬ (10 : Int32) = 4 by decide), if_neg (show ¬ (10 : Int32) = 5 by decide), if_neg (show ¬ (10 : Int32) = 6 by decide), if_neg (show ¬ (10 : Int32) = 7 by decide), if_neg (show ¬ (10 : Int32) = 8 by decide), if_neg (show ¬ (10 : Int32) = 9 by decide), if_pos rfl, p1, p2, Option.bind_some, Option.bind_some]
  dsimp only
  rcases p3 with ⟨rfl, p3⟩ | ⟨rfl, ok2, md3, mr3, p4, p5⟩
  · rw [if_pos (show q_bz false = 0 from rfl)]
    exact ⟨_, _, _, _, _, _, _, _, _, _, _, rfl, rfl, Or.inl ⟨rfl, p3⟩⟩
  · rw [if_neg (show ¬ q_bz true = 0 by decide), p4, Option.bind_some]
    rcases p5 with ⟨rfl, p5⟩ | ⟨rfl, p5⟩
    · rw [if_pos (show q_bz false = 0 from rfl)]
      exact ⟨_, _, _, _, _, _, _, _, _, _, _, rfl, rfl, Or.inl ⟨rfl, p5⟩⟩
    · rw [if_neg (show ¬ q_bz true = 0 by decide)]
      refine ⟨_, _, _, _, _, _, _, _, _, _, _, rfl, rfl, Or.inr ⟨rfl, fun _ _ => rfl, fun _ _ _ => rfl, fun k hk => ?_, ?_, ?_, ?_, pq, q_up pr s v, oc, cs, op, _, by omega, Nat.le_refl _, Nat.le_refl _, fun k hk => ⟨rfl, m_up_n hk⟩, m_LM_m p5 (fun y q => ?_)⟩⟩
      · rw [m_u2_j hk]
      · rw [m_u2_i (by decide)]
      · rw [m_u2_i (by decide)]
      · rw [m_u2_i (by decide)]
      · refine ⟨y, q.1, fun _ _ => rfl, fun _ _ => ⟨rfl, rfl⟩, Or.inr ⟨rfl, rfl, Or.inr (Or.inl ⟨rfl, ?_⟩)⟩⟩
        rw [m_u2_s, m_up_s]
/-- FOLLOW -/
theorem m_rest12 (hF : m_TF tp mt z n tk tg ts tl tv kn mf mm) (h : m_LM mt kn mf mm n tg tv hn V0 (mq, pd, po, pq, pr) H t qn rd md mr mp pc pw oc cs op Q) (hQ : ∀ v, Q v → mq 4 = nI (s + 1) ∧ s < 20) : m_RO mt kn mf mm n tg tv hn V0 mq pd po pq pr H t s 12 qn qu qd T mp oc cs Q (m_cR hn tk tv tg 12 s qn qu rd qd T) (f_X15_isRest md mt kn mf mm mr mp pc pw 11) := by
  obtain ⟨ok3, rd3, md4, e1, e2, e3⟩ := m_LM_take hF h (x := 17) (c := 12) (by decide) (by decide) rfl
  unfold m_cR f_X15_isRest f_X15_isRope
  rw [if_neg (by decide), if_neg (by decide), if_neg (by decide), if_pos rfl, if_neg (show ¬ (11 : Int32) = 4 by decide), if_neg (show ¬ (11 : Int32) = 5 by decide), if_neg (show ¬ (11 : Int32) = 6 by decide), if_neg (show ¬ (11 : Int32) = 7 by decide), if_neg (show ¬ (11 : Int32) = 8 by decide), if_neg (show ¬ (11 : Int32) = 9 by decide), if_neg (show ¬ (11 : Int32) = 10 by decide), if_pos rfl, e1, e2, Option.bind_some, Option.bind_some]
  dsimp only
  rcases e3 with ⟨rfl, e3⟩ | ⟨rfl, e3⟩
  · rw [m_hookE e3.1, Option.bind_some, if_pos (show q_bz false = 0 from rfl)]
    dsimp only
    rw [m_ropeE e3.1 (by decide) (by decide)]
    exact ⟨_, _, _, _, _, _, _, _, _, _, _, rfl, rfl, Or.inl ⟨rfl, e3⟩⟩
  · obtain ⟨hv, rd5, ok5, md5, f1, f2, f3, f4⟩ := m_LM_hook hF (r := 4) (by decide) (fun y => (mq, pd, po, q_up pq s y, pr)) e3 (fun v' ve ht hs k q => m_eo4 hF k ht hs (hQ _ q).1 (hQ _ q).2)
    rw [f1, Option.bind_some, if_neg (show ¬ q_bz true = 0 by decide)]
    dsimp only
    rw [f2, Option.bind_some]
    rcases f4 with ⟨rfl, f4⟩ | ⟨rfl, f4⟩
    · rw [m_ropeE f4.1 (by decide) (by decide), if_pos (show q_bz false = 0 from rfl)]
      exact ⟨_, _, _, _, _, _, _, _, _, _, _, rfl, rfl, Or.inl ⟨rfl, f4⟩⟩
    · obtain ⟨v, rd2, ok1, md2, p1, p2, p3⟩ := m_LM_rope (s := s) hF f4 (fun v q => hQ v q.1) (x := 15) (c := 8) (by decide) (by decide) rfl
      rw [p1, Option.bind_some, if_neg (show ¬ q_bz true = 0 by decide)]
      dsimp only
      rw [p2, Option.bind_some]
      rcases p3 with ⟨rfl, p3⟩ | ⟨rfl, ok2, md3, mr3, p4, p5⟩
      · rw [if_pos (show q_bz false = 0 from rfl), Option.bind_some, if_pos (show q_bz false = 0 from rfl)]
        exact ⟨_, _, _, _, _, _, _, _, _, _, _, rfl, rfl, Or.inl ⟨rfl, p3⟩⟩
      · rw [if_neg (show ¬ q_bz true = 0 by decide)]
        dsimp only
        rw [p4, Option.bind_some]
        rcases p5 with ⟨rfl, p5⟩ | ⟨rfl, p5⟩
        · rw [if_pos (show q_bz false = 0 from rfl), Option.bind_some, if_pos (show q_bz false = 0 from rfl)]
          exact ⟨_, _, _, _, _, _, _, _, _, _, _, rfl, rfl, Or.inl ⟨rfl, p5⟩⟩
        · rw [if_neg (show ¬ q_bz true = 0 by decide), Option.bind_some, if_neg (show ¬ q_bz true = 0 by decide)]
          refine ⟨_, _, _, _, _, _, _, _, _, _, _, rfl, rfl, Or.inr ⟨rfl, fun _ _ => rfl, fun _ _ _ => rfl, fun k hk => ?_, ?_, ?_, ?_, q_up pq s (nI hv), q_up pr s v, oc, cs, op, _, by omega, Nat.le_refl _, Nat.le_refl _, fun k hk => ⟨m_up_n hk, m_up_n hk⟩, m_LM_m p5 (fun y q => ?_)⟩⟩
          · rw [m_u2_j hk, m_u2_j hk]
          · rw [m_u2_i (by decide), m_u2_i (by decide)]
          · rw [m_u2_i (by decide), m_u2_i (by decide)]
          · rw [m_u2_i (by decide), m_u2_i (by decide)]
          · refine ⟨y, q.1.1, fun _ _ => rfl, fun _ _ => ⟨rfl, rfl⟩, Or.inr ⟨rfl, rfl, Or.inr (Or.inr (Or.inl ⟨rfl, hv, q.1.2, ?_, ?_, ?_⟩))⟩⟩
            · rw [m_u2_i (by decide), m_u2_s]
            · rw [m_up_s]
            · rw [m_u2_s, m_up_s]
/-- DROP -/
theorem m_rest13 (h : m_LM mt kn mf mm n tg tv hn V0 (mq, pd, po, pq, pr) H t qn rd md mr mp pc pw oc cs op Q) : m_RO mt kn mf mm n tg tv hn V0 mq pd po pq pr H t s 13 qn qu qd T mp oc cs Q (m_cR hn tk tv tg 13 s qn qu rd qd T) (f_X15_isRest md mt kn mf mm mr mp pc pw 14) :=
  ⟨_, _, _, _, _, _, _, _, _, _, _, rfl, rfl, Or.inr ⟨rfl, fun _ _ => rfl, fun _ _ _ => rfl, fun k hk => rfl, rfl, rfl, rfl, pq, pr, oc, cs, op, t, Nat.le_refl _, Nat.le_refl _, Nat.le_refl _, fun k hk => ⟨rfl, rfl⟩, m_LM_m h (fun y q => ⟨y, q, fun _ _ => rfl, fun _ _ => ⟨rfl, rfl⟩, Or.inr ⟨rfl, rfl, Or.inr (Or.inr (Or.inr rfl))⟩⟩)⟩⟩
end
