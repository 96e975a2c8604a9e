/-! MATH: a value, on both sides -/
section
variable {tp mt tk ts tl tv kn mf mm hn : m_Rr} {z n : Nat} {tg : Nat → Option Nat} {V0 : m_V} {W : m_Rr × m_Rr × m_Rr × m_Rr × m_Rr} {Z : m_Z} {H k i0 a0 u t dp : Nat} {X : m_PX} {Y : m_PY}
theorem m_FrM {rd' md' : m_Rr} (h : ∀ j, j ≠ 9 → j ≠ 10 → md' j = Y.1 j) : m_Fr X Y (X.1, X.2.1, rd', X.2.2.2) (md', Y.2) := ⟨fun _ _ => rfl, h, fun _ _ _ => rfl⟩
theorem m_Fr9 {rd' : m_Rr} {x : Int32} : m_Fr X Y (X.1, X.2.1, rd', X.2.2.2) (q_up Y.1 9 x, Y.2) := ⟨fun _ _ => rfl, fun j x1 x2 => m_up_n x1, fun _ _ _ => rfl⟩
/-- a number -/
theorem m_val2 (hF : m_TF tp mt z n tk tg ts tl tv kn mf mm) {rV rS : m_TyC} {rV' rS' : m_TyR} {x1 : Int32} (h : m_PS mt kn mf mm n tg tv hn V0 W Z H k i0 a0 u t X Y) (h10 : Y.1 10 = nI dp) (s2 : tg t = some 2) :
    ∃ X' ok Y', f_X7_readValue rV rS X.1 X.2.1 X.2.2.1 hn tk tv X.2.2.2 tg x1 = some X' ∧ f_X15_isValue rV' rS' Y.1 mt kn mf mm Y.2.1 Y.2.2.1 Y.2.2.2.1 Y.2.2.2.2 = some (ok, Y') ∧ m_Out mt kn mf mm n tg tv hn V0 W Z H k i0 a0 (u + 1) t dp X Y ok X' Y' := by
  have n400 : n ≤ 400 := hF.2.2.1
  have h1 := h.1
  have h3 := h.2.1
  have h9 := h.2.2.1
  obtain ⟨b1, b2⟩ := m_signP hF h3 (m_PS_n1 h) h1 s2
  have ht := m_lt hF h1 s2 (by decide)
  obtain ⟨s, s1, s2', s3, -, -, -⟩ := m_sg hF h1
  obtain rfl : s = 2 := Option.some.inj (s2'.symm.trans s2)
  have i41 : f_X15_is Y.1 kn 41 = some (decide (2 = 2)) := m_isP (x := 2) h9 (by omega) s1 s3 (by decide)
  have adv := m_adv n400 h ht (md' := q_up Y.1 9 (nI (t + 1))) m_up_s
  obtain ⟨qn', qu', qd', mp', pc', mp2, pc2, o1, o2, o3, o4, o5⟩ := m_numP n400 adv (tv t)
  dsimp only at o1 o2 o3
  unfold f_X7_readValue f_X15_isValue
  rw [b1, Option.bind_some, m_e49 b2, Option.bind_some, q_ix_nI b2 (by decide), Option.bind_some, if_pos (show q_sw 2 = 9 from rfl), h3, m_tval hF h1, Option.bind_some, o1, Option.bind_some, h9, q_ix_nI (show t < 401 by omega) (by decide), Option.bind_some, i41, Option.bind_some, if_neg (m_bzT rfl), o2, Option.bind_some, m_tnum hF ht s2, Option.bind_some, o3, Option.bind_some, nI_1]
  exact ⟨_, _, _, rfl, rfl, m_Fr_t m_Fr9 o5, Or.inr ⟨rfl, t + 1, by omega, o4, (show q_up Y.1 9 (nI (t + 1)) 10 = _ from (m_up_n (by decide)).trans h10)⟩⟩
/-- what is asked of the barn, without a hook -/
theorem m_val20 (hF : m_TF tp mt z n tk tg ts tl tv kn mf mm) {rV rS : m_TyC} {rV' rS' : m_TyR} {x1 : Int32} (h : m_PS mt kn mf mm n tg tv hn V0 W Z H k i0 a0 u t X Y) (h10 : Y.1 10 = nI dp) {s : Nat} (s2 : tg t = some s) (hs : 20 ≤ s ∧ s ≤ 24) :
    ∃ X' ok Y', f_X7_readValue rV rS X.1 X.2.1 X.2.2.1 hn tk tv X.2.2.2 tg x1 = some X' ∧ f_X15_isValue rV' rS' Y.1 mt kn mf mm Y.2.1 Y.2.2.1 Y.2.2.2.1 Y.2.2.2.2 = some (ok, Y') ∧ m_Out mt kn mf mm n tg tv hn V0 W Z H k i0 a0 (u + 1) t dp X Y ok X' Y' := by
  have n400 : n ≤ 400 := hF.2.2.1
  have h1 := h.1
  have h3 := h.2.1
  have h9 := h.2.2.1
  obtain ⟨b1, b2⟩ := m_signP hF h3 (m_PS_n1 h) h1 s2
  have ht := m_lt hF h1 s2 (by omega)
  obtain ⟨s', s1, s2', s3, -, -, -⟩ := m_sg hF h1
  obtain rfl : s' = s := Option.some.inj (s2'.symm.trans s2)
  have i41 : f_X15_is Y.1 kn 41 = some (decide (s' = 2)) := m_isP (x := 2) h9 (by omega) s1 s3 (by decide)
  obtain ⟨k1, k2, k3⟩ := m_kdR2 s' s1 hs
  have adv := m_adv n400 h ht (md' := q_up Y.1 9 (nI (t + 1))) m_up_s
  obtain ⟨qn', qu', qd', mp', pc', o1, o2, o3, o4⟩ := m_opP (d := s') (w := m_kd s') (v := 0) (u' := u + 1) n400 adv b2 (fun N pc cs hpc => Or.inr (Or.inl ⟨rfl, rfl, by
    rw [hpc]
    rcases (show s' = 20 ∨ s' = 21 ∨ s' = 22 ∨ s' = 23 ∨ s' = 24 by omega) with e | e | e | e | e <;> rw [e] <;> decide⟩))
  dsimp only at o1 o2
  have hc : f_X7_readValue rV rS X.1 X.2.1 X.2.2.1 hn tk tv X.2.2.2 tg x1 = some (qn', qu', q_up X.2.2.1 3 (nI (t + 1)), qd') := by
    unfold f_X7_readValue
    rw [b1, Option.bind_some, m_e49 b2, Option.bind_some, q_ix_nI b2 (by decide), Option.bind_some, o1, h3, nI_1]
    rcases (show s' = 20 ∨ s' = 21 ∨ s' = 22 ∨ s' = 23 ∨ s' = 24 by omega) with e | e | e | e | e <;> rw [e] <;> rfl
  rw [hc]
  unfold f_X15_isValue
  rw [h9, q_ix_nI (show t < 401 by omega) (by decide), Option.bind_some, i41, Option.bind_some, if_pos (m_bzF k3), s3, if_neg k1, if_neg k2, o2, Option.bind_some, nI_1]
  exact ⟨_, _, _, rfl, rfl, m_Fr_t m_Fr9 o4, Or.inr ⟨rfl, t + 1, by omega, o3, (show q_up Y.1 9 (nI (t + 1)) 10 = _ from (m_up_n (by decide)).trans h10)⟩⟩
/-- SIZE OF, AGE OF -/
theorem m_val25 (hF : m_TF tp mt z n tk tg ts tl tv kn mf mm) {rV rS : m_TyC} {rV' rS' : m_TyR} {x1 : Int32} (h : m_PS mt kn mf mm n tg tv hn V0 W Z H k i0 a0 u t X Y) (h10 : Y.1 10 = nI dp) {s : Nat} (s2 : tg t = some s) (hs : s = 25 ∨ s = 26) :
    ∃ X' ok Y', f_X7_readValue rV rS X.1 X.2.1 X.2.2.1 hn tk tv X.2.2.2 tg x1 = some X' ∧ f_X15_isValue rV' rS' Y.1 mt kn mf mm Y.2.1 Y.2.2.1 Y.2.2.2.1 Y.2.2.2.2 = some (ok, Y') ∧ m_Out mt kn mf mm n tg tv hn V0 W Z H k i0 a0 (u + 1) t dp X Y ok X' Y' := by
  have n400 : n ≤ 400 := hF.2.2.1
  have h1 := h.1
  have h3 := h.2.1
  have h9 := h.2.2.1
  obtain ⟨b1, b2⟩ := m_signP hF h3 (m_PS_n1 h) h1 s2
  have ht := m_lt hF h1 s2 (by omega)
  obtain ⟨s', s1, s2', s3, -, -, -⟩ := m_sg hF h1
  obtain rfl : s' = s := Option.some.inj (s2'.symm.trans s2)
  have hw : (s' = 25 ∧ m_kd s' = 5) ∨ (s' = 26 ∧ m_kd s' = 21) ∨ (s' = 27 ∧ m_kd s' = 22) := by
    rcases hs with e | e <;> rw [e] <;> decide
  have adv := m_adv n400 h ht (md' := q_up Y.1 9 (nI (t + 1))) m_up_s
  have g3 : q_up X.2.2.1 3 (nI (t + 1)) 3 = nI (t + 1) := m_up_s
  have g9 : q_up Y.1 9 (nI (t + 1)) 9 = nI (t + 1) := m_up_s
  have g4 : q_up X.2.2.1 3 (nI (t + 1)) 4 ≠ 1 := by rw [m_up_n (by decide)]; exact m_PS_n1 h
  obtain ⟨q, r1, r2, r3, -, -, -⟩ := m_sg hF (show t + 1 ≤ n by omega)
  rw [m_iv h9 (by omega) s1 s3 (by omega) (by omega), if_pos hs]
  have hc : f_X7_readValue rV rS X.1 X.2.1 X.2.2.1 hn tk tv X.2.2.2 tg x1 = (f_X7_take (q_up X.2.2.1 3 (nI (t + 1))) tk tg 18).bind fun r12 => (f_X7_readHook X.1 r12.2 hn tk tv tg).bind fun r13 => (f_X6_addOrder X.1 X.2.1 X.2.2.2 s' r13.1).bind fun r14 => some (r14.1, r14.2.1, r13.2, r14.2.2) := by
    unfold f_X7_readValue
    rw [b1, Option.bind_some, m_e49 b2, Option.bind_some, q_ix_nI b2 (by decide), Option.bind_some, h3, nI_1]
    rcases hs with e | e <;> rw [e] <;> rfl
  have e13 : f_X15_eat (q_up Y.1 9 (nI (t + 1))) kn 13 = some (if q = 18 then (true, q_up (q_up Y.1 9 (nI (t + 1))) 9 (nI (t + 1 + 1))) else (false, q_up Y.1 9 (nI (t + 1)))) := m_eatP (x := 18) g9 (by omega) r1 r3 (by decide)
  rw [hc, m_takeP hF g3 g4 (by omega) r2 (by decide), Option.bind_some, e13]
  by_cases e18 : q = 18
  · subst e18
    have ht2 := m_lt hF (show t + 1 ≤ n by omega) r2 (by decide)
    have adv2 := m_adv n400 adv ht2 (md' := q_up (q_up Y.1 9 (nI (t + 1))) 9 (nI (t + 1 + 1))) m_up_s
    obtain ⟨hv, rd', qn', qu', qd', mp1, pc1, ok, Y', o1, o2, o3, o4, o5, o6⟩ := m_ofP hF (m_PS_k (k' := k + 1) adv2 (by omega)) hw
    dsimp only at o1 o2 o3 o4 o5
    rw [if_pos rfl, if_pos rfl, o3, Option.bind_some, Option.bind_some]
    dsimp only
    rw [o1, Option.bind_some]
    dsimp only
    rw [o2, Option.bind_some, if_neg (show ¬ q_bz true = 0 by decide), o4, Option.bind_some]
    rcases o6 with ⟨rfl, o6⟩ | ⟨rfl, o6, o7⟩
    · rw [if_pos (show q_bz false = 0 from rfl)]
      exact ⟨_, _, _, rfl, rfl, m_Fr_t m_Fr9 (m_Fr_t m_Fr9 o5), Or.inl ⟨rfl, o6⟩⟩
    · rw [if_neg (show ¬ q_bz true = 0 by decide)]
      exact ⟨_, _, _, rfl, rfl, m_Fr_t m_Fr9 (m_Fr_t m_Fr9 o5), Or.inr ⟨rfl, t + 1 + 1 + 1, by omega, o6, o7.trans (show q_up (q_up Y.1 9 (nI (t + 1))) 9 (nI (t + 1 + 1)) 10 = _ from (m_up_n (by decide)).trans ((m_up_n (by decide)).trans h10))⟩⟩
  · obtain ⟨-, -, -, -, -, -, oc, cs, op, a1, a2, a3, a4, -⟩ := m_PS_St h
    obtain ⟨q1, q2, q3, q4, q5⟩ := m_addT (qn := X.1) (qu := X.2.1) (qd := X.2.2.2) (d := s') (v := 0) b2
    rw [if_neg e18, if_neg e18, m_putP a3 (by omega), Option.bind_some, Option.bind_some]
    dsimp only
    rw [m_hookE m_fl_4, Option.bind_some]
    dsimp only
    rw [q4, Option.bind_some, if_pos (show q_bz false = 0 from rfl)]
    exact ⟨_, _, _, rfl, rfl, ⟨q5, fun j x1 x2 => m_up_n x1, fun j x1 x2 => m_up_n x1⟩, Or.inl ⟨rfl, m_bad g3 g9 (by omega)⟩⟩
/-- minus -/
theorem m_val41 (hF : m_TF tp mt z n tk tg ts tl tv kn mf mm) {rV rS : m_TyC} {rV' rS' : m_TyR} (hV : dp < 8 → m_PP mt kn mf mm n tk tg tv hn V0 W Z H (dp + 1) rV rV') (h : m_PS mt kn mf mm n tg tv hn V0 W Z H k i0 a0 u t X Y) (hdp : dp ≤ 8) (h10 : Y.1 10 = nI dp) (s2 : tg t = some 41) :
    ∃ X' ok Y', f_X7_readValue rV rS X.1 X.2.1 X.2.2.1 hn tk tv X.2.2.2 tg (nI dp) = some X' ∧ f_X15_isValue rV' rS' Y.1 mt kn mf mm Y.2.1 Y.2.2.1 Y.2.2.2.1 Y.2.2.2.2 = some (ok, Y') ∧ m_Out mt kn mf mm n tg tv hn V0 W Z H k i0 a0 (u + 1) t dp X Y ok X' Y' := by
  have n400 : n ≤ 400 := hF.2.2.1
  have h1 := h.1
  have h3 := h.2.1
  have h9 := h.2.2.1
  obtain ⟨b1, b2⟩ := m_signP hF h3 (m_PS_n1 h) h1 s2
  have ht := m_lt hF h1 s2 (by omega)
  obtain ⟨s', s1, s2', s3, -, -, -⟩ := m_sg hF h1
  obtain rfl : s' = 41 := Option.some.inj (s2'.symm.trans s2)
  rw [m_iv h9 (by omega) s1 s3 (by omega) (by omega), if_neg (show ¬ (41 = 25 ∨ 41 = 26) by decide), if_pos rfl]
  have hc : f_X7_readValue rV rS X.1 X.2.1 X.2.2.1 hn tk tv X.2.2.2 tg (nI dp) = (f_X7_takeDeeper X.2.2.1 (nI dp)).bind fun r18 => if (q_bz r18.1) = 0 then some (X.1, X.2.1, r18.2, X.2.2.2) else (rV X.1 X.2.1 r18.2 hn tk tv X.2.2.2 tg (nI dp + 1)).bind fun r20 => (f_X6_addOrder r20.1 r20.2.1 r20.2.2.2 4 0).bind fun r21 => some (r21.1, r21.2.1, r20.2.2.1, r21.2.2) := by
    unfold f_X7_readValue
    rw [b1, Option.bind_some, m_e49 b2, Option.bind_some, q_ix_nI b2 (by decide), Option.bind_some]
    rfl
  rw [hc]
  rcases m_deepP hF h ht hdp h10 with ⟨e8, d1, d2⟩ | ⟨h8, rd1, md1, d1, d2, d3, d4, d5⟩
  · rw [d1, d2, Option.bind_some, Option.bind_some]
    exact ⟨_, _, _, rfl, rfl, ⟨fun _ _ => rfl, fun _ _ _ => rfl, fun _ _ _ => rfl⟩, Or.inl ⟨rfl, m_bad h3 h9 h1⟩⟩
  · obtain ⟨hE, hL⟩ := hV h8
    obtain ⟨X7, ok7, Y7, e1, e2, e3, e4⟩ := hL _ _ _ _ _ _ _ d4 d3
    dsimp only at e1 e2
    rw [d1, d2, Option.bind_some, Option.bind_some, if_neg (show ¬ q_bz true = 0 by decide), if_neg (show ¬ q_bz true = 0 by decide), show nI dp + 1 = nI (dp + 1) from nI_1 _]
    dsimp only
    rw [e1, e2, Option.bind_some, Option.bind_some]
    rcases e4 with ⟨rfl, e4⟩ | ⟨rfl, t7, e5, e6, e7⟩
    · obtain ⟨q1, q2, q3, q4, q5⟩ := m_addT (qn := X7.1) (qu := X7.2.1) (qd := X7.2.2.2) (d := 4) (v := 0) (by decide)
      rw [q4, Option.bind_some, if_neg (fun z => z (show q_bz false = 0 from rfl))]
      exact ⟨_, _, _, rfl, rfl, m_Fr_t d5 (m_Fr_t e3 ⟨q5, fun _ _ _ => rfl, fun _ _ _ => rfl⟩), Or.inl ⟨rfl, m_Bad_md e4 rfl⟩⟩
    · obtain ⟨qn', qu', qd', mp', pc', o1, o2, o3, o4⟩ := m_opP (d := 4) (w := 33) (v := 0) (u' := u + 1) n400 e6 (by decide) (fun N pc cs hpc => Or.inr (Or.inr (Or.inr (Or.inr (Or.inl ⟨rfl, by omega, rfl, Or.inl ⟨rfl, hpc⟩⟩)))))
      rw [o1, Option.bind_some, if_pos (show ¬ q_bz true = 0 by decide), o2, Option.bind_some]
      exact ⟨_, _, _, rfl, rfl, m_Fr_t d5 (m_Fr_t e3 (m_Fr_t o4 ⟨fun _ _ => rfl, fun j x1 x2 => m_up_n x2, fun _ _ _ => rfl⟩)), Or.inr ⟨rfl, t7, by omega, m_PS_md o3 (m_up_n (by decide)), by show q_up Y7.1 10 (Y7.1 10 - 1) 10 = _; rw [m_up_s, e7, m_dn dp h8]⟩⟩
/-- a sum in brackets -/
theorem m_val34 (hF : m_TF tp mt z n tk tg ts tl tv kn mf mm) {rV rS : m_TyC} {rV' rS' : m_TyR} (hS : dp < 8 → m_PP mt kn mf mm n tk tg tv hn V0 W Z H (dp + 1) rS rS') (h : m_PS mt kn mf mm n tg tv hn V0 W Z H k i0 a0 u t X Y) (hdp : dp ≤ 8) (h10 : Y.1 10 = nI dp) (s2 : tg t = some 34) :
    ∃ X' ok Y', f_X7_readValue rV rS X.1 X.2.1 X.2.2.1 hn tk tv X.2.2.2 tg (nI dp) = some X' ∧ f_X15_isValue rV' rS' Y.1 mt kn mf mm Y.2.1 Y.2.2.1 Y.2.2.2.1 Y.2.2.2.2 = some (ok, Y') ∧ m_Out mt kn mf mm n tg tv hn V0 W Z H k i0 a0 (u + 1) t dp X Y ok X' Y' := by
  have n400 : n ≤ 400 := hF.2.2.1
  have h1 := h.1
  have h3 := h.2.1
  have h9 := h.2.2.1
  obtain ⟨b1, b2⟩ := m_signP hF h3 (m_PS_n1 h) h1 s2
  have ht := m_lt hF h1 s2 (by omega)
  obtain ⟨s', s1, s2', s3, -, -, -⟩ := m_sg hF h1
  obtain rfl : s' = 34 := Option.some.inj (s2'.symm.trans s2)
  have iS := m_isSgP (x := 34) (c := 40) h9 (by omega) s1 s3 (by decide) (by decide)
  rw [m_iv h9 (by omega) s1 s3 (by omega) (by omega), if_neg (show ¬ (34 = 25 ∨ 34 = 26) by decide), if_neg (show ¬ (34 = 41) by decide), if_neg (show ¬ (34 = 32 ∨ 34 = 33) by decide)]
  have hc : f_X7_readValue rV rS X.1 X.2.1 X.2.2.1 hn tk tv X.2.2.2 tg (nI dp) = (f_X7_takeDeeper X.2.2.1 (nI dp)).bind fun r22 => if (q_bz r22.1) = 0 then some (X.1, X.2.1, r22.2, X.2.2.2) else (rS X.1 X.2.1 r22.2 hn tk tv X.2.2.2 tg (nI dp + 1)).bind fun r24 => (f_X7_take r24.2.2.1 tk tg 35).bind fun r25 => some (r24.1, r24.2.1, r25.2, r24.2.2.2) := by
    unfold f_X7_readValue
    rw [b1, Option.bind_some, m_e49 b2, Option.bind_some, q_ix_nI b2 (by decide), Option.bind_some]
    rfl
  rw [hc]
  unfold f_X15_isInside
  rw [iS, Option.bind_some, if_neg (m_bzT rfl)]
  rcases m_deepP hF h ht hdp h10 with ⟨e8, d1, d2⟩ | ⟨h8, rd1, md1, d1, d2, d3, d4, d5⟩
  · rw [d1, d2, Option.bind_some, Option.bind_some]
    exact ⟨_, _, _, rfl, rfl, ⟨fun _ _ => rfl, fun _ _ _ => rfl, fun _ _ _ => rfl⟩, Or.inl ⟨rfl, m_bad h3 h9 h1⟩⟩
  · obtain ⟨hE, hL⟩ := hS h8
    obtain ⟨X7, ok7, Y7, e1, e2, e3, e4⟩ := hL _ _ _ _ _ _ _ d4 d3
    dsimp only at e1 e2
    rw [d1, d2, Option.bind_some, Option.bind_some, if_neg (show ¬ q_bz true = 0 by decide), if_neg (show ¬ q_bz true = 0 by decide), show nI dp + 1 = nI (dp + 1) from nI_1 _]
    dsimp only
    rw [e1, e2, Option.bind_some, Option.bind_some]
    rcases e4 with ⟨rfl, e4⟩ | ⟨rfl, t7, e5, e6, e7⟩
    · rw [m_takeE e4.1 (by decide) (by decide), Option.bind_some, if_pos (show q_bz false = 0 from rfl)]
      exact ⟨_, _, _, rfl, rfl, m_Fr_t d5 (m_Fr_t e3 ⟨fun _ _ => rfl, fun _ _ _ => rfl, fun _ _ _ => rfl⟩), Or.inl ⟨rfl, m_Bad_md e4 rfl⟩⟩
    · have n7 := m_PS_n1 e6
      obtain ⟨q, r1, r2, r3, -, -, -⟩ := m_sg hF e6.1
      have md9 : q_up Y7.1 10 (Y7.1 10 - 1) 9 = nI t7 := (m_up_n (by decide)).trans e6.2.2.1
      have md10 : q_up Y7.1 10 (Y7.1 10 - 1) 10 = nI dp := by rw [m_up_s, e7, m_dn dp h8]
      rw [if_neg (show ¬ q_bz true = 0 by decide), if_pos (show q_bz false = 0 from rfl), if_pos (show q_bz false = 0 from rfl), m_takeP hF e6.2.1 n7 e6.1 r2 (by decide), Option.bind_some, m_eatSgP (x := 35) md9 (by have := e6.1; omega) r1 r3 (by decide) (by decide), Option.bind_some]
      by_cases e : q = 35
      · subst e
        have ht7 := m_lt hF e6.1 r2 (by decide)
        rw [if_pos rfl, if_pos rfl]
        exact ⟨_, _, _, rfl, rfl, m_Fr_t d5 (m_Fr_t e3 ⟨fun _ _ => rfl, fun j x1 x2 => (m_up_n x1).trans (m_up_n x2), fun _ _ _ => rfl⟩), Or.inr ⟨rfl, t7 + 1, by omega, m_PS_k (m_adv n400 e6 ht7 (md' := q_up (q_up Y7.1 10 (Y7.1 10 - 1)) 9 (nI (t7 + 1))) m_up_s) (by omega), (show q_up (q_up Y7.1 10 (Y7.1 10 - 1)) 9 (nI (t7 + 1)) 10 = _ from (m_up_n (by decide)).trans md10)⟩⟩
      · rw [if_neg e, if_neg e]
        exact ⟨_, _, _, rfl, rfl, m_Fr_t d5 (m_Fr_t e3 ⟨fun _ _ => rfl, fun j x1 x2 => m_up_n x2, fun _ _ _ => rfl⟩), Or.inl ⟨rfl, m_bad e6.2.1 md9 e6.1⟩⟩
/-- MIN, MAX -/
theorem m_val32 (hF : m_TF tp mt z n tk tg ts tl tv kn mf mm) {rV rS : m_TyC} {rV' rS' : m_TyR} (hS : dp < 8 → m_PP mt kn mf mm n tk tg tv hn V0 W Z H (dp + 1) rS rS') (h : m_PS mt kn mf mm n tg tv hn V0 W Z H k i0 a0 u t X Y) (hdp : dp ≤ 8) (h10 : Y.1 10 = nI dp) {s : Nat} (s2 : tg t = some s) (hs : s = 32 ∨ s = 33) :
    ∃ X' ok Y', f_X7_readValue rV rS X.1 X.2.1 X.2.2.1 hn tk tv X.2.2.2 tg (nI dp) = some X' ∧ f_X15_isValue rV' rS' Y.1 mt kn mf mm Y.2.1 Y.2.2.1 Y.2.2.2.1 Y.2.2.2.2 = some (ok, Y') ∧ m_Out mt kn mf mm n tg tv hn V0 W Z H k i0 a0 (u + 1) t dp X Y ok X' Y' := by
  have n400 : n ≤ 400 := hF.2.2.1
  have h1 := h.1
  have h3 := h.2.1
  have h9 := h.2.2.1
  obtain ⟨b1, b2⟩ := m_signP hF h3 (m_PS_n1 h) h1 s2
  have ht := m_lt hF h1 s2 (by omega)
  obtain ⟨s', s1, s2', s3, -, -, -⟩ := m_sg hF h1
  obtain rfl : s' = s := Option.some.inj (s2'.symm.trans s2)
  rw [m_iv h9 (by omega) s1 s3 (by omega) (by omega), if_neg (show ¬ (s' = 25 ∨ s' = 26) by omega), if_neg (show ¬ (s' = 41) by omega), if_pos hs]
  have hc : f_X7_readValue rV rS X.1 X.2.1 X.2.2.1 hn tk tv X.2.2.2 tg (nI dp) = (f_X7_readPair rS X.1 X.2.1 (q_up X.2.2.1 3 (nI (t + 1))) hn tk tv X.2.2.2 tg s' (nI dp)).bind fun r27 => some (r27.1, r27.2.1, r27.2.2.1, r27.2.2.2) := by
    unfold f_X7_readValue
    rw [b1, Option.bind_some, m_e49 b2, Option.bind_some, q_ix_nI b2 (by decide), Option.bind_some, h3, nI_1]
    rcases hs with e | e <;> rw [e] <;> rfl
  have hb : m_bin s' (m_kd s') := by
    unfold m_bin
    rcases hs with e | e <;> rw [e] <;> decide
  have adv := m_adv n400 h ht (md' := q_up Y.1 9 (nI (t + 1))) m_up_s
  obtain ⟨X', ok, Y', o1, o2, o3, o4⟩ := m_pairP hF hS adv hdp (show q_up Y.1 9 (nI (t + 1)) 10 = _ from (m_up_n (by decide)).trans h10) hb
  dsimp only at o1 o2
  rw [hc, o1, Option.bind_some, o2, Option.bind_some]
  refine ⟨_, _, _, rfl, rfl, m_Fr_t m_Fr9 o3, ?_⟩
  rcases o4 with o4 | ⟨e, t', o4, o5⟩
  · exact Or.inl o4
  · exact Or.inr ⟨e, t', by omega, o5⟩
/-- a value -/
theorem m_value (hF : m_TF tp mt z n tk tg ts tl tv kn mf mm) {rV rS : m_TyC} {rV' rS' : m_TyR} (hV : dp < 8 → m_PP mt kn mf mm n tk tg tv hn V0 W Z H (dp + 1) rV rV') (hS : dp < 8 → m_PP mt kn mf mm n tk tg tv hn V0 W Z H (dp + 1) rS rS') (hdp : dp ≤ 8) : m_PP mt kn mf mm n tk tg tv hn V0 W Z H dp (f_X7_readValue rV rS) (f_X15_isValue rV' rS') := by
  refine ⟨fun qn qu rd qd x h => m_cvE h, fun k i0 a0 u t X Y h h10 => ?_⟩
  have h1 := h.1
  have h3 := h.2.1
  have h9 := h.2.2.1
  have n400 : n ≤ 400 := hF.2.2.1
  obtain ⟨s, s1, s2, s3, -, -, -⟩ := m_sg hF h1
  by_cases c1 : s = 2
  · subst c1; exact m_val2 hF h h10 s2
  · by_cases c2 : 20 ≤ s ∧ s ≤ 24
    · exact m_val20 hF h h10 s2 c2
    · by_cases c3 : s = 25 ∨ s = 26
      · exact m_val25 hF h h10 s2 c3
      · by_cases c4 : s = 41
        · subst c4; exact m_val41 hF hV h hdp h10 s2
        · by_cases c5 : s = 34
          · subst c5; exact m_val34 hF hS h hdp h10 s2
          · by_cases c6 : s = 32 ∨ s = 33
            · exact m_val32 hF hS h hdp h10 s2 c6
            · obtain ⟨b1, b2⟩ := m_signP hF h3 (m_PS_n1 h) h1 s2
              have iS := m_isSgP (x := 34) (c := 40) h9 (by omega) s1 s3 (by decide) (by decide)
              rw [m_cvF b1 b2 c1 (by omega) c4 c5 (by omega) (by omega), m_failP (m_PS_n1 h), Option.bind_some, m_iv h9 (by omega) s1 s3 c1 c2, if_neg c3, if_neg c4, if_neg c6]
              unfold f_X15_isInside
              rw [iS, Option.bind_some, if_pos (m_bzF c5)]
              exact ⟨_, _, _, rfl, rfl, ⟨fun _ _ => rfl, fun _ _ _ => rfl, fun _ _ _ => rfl⟩, Or.inl ⟨rfl, m_bad h3 h9 h1⟩⟩
end
