/-! MATH: a single test, on both sides -/
section
variable {tp mt tk ts tl tv kn mf mm hn : m_Rr} {z n : Nat} {tg : Nat → Option Nat} {V0 : m_V} {W : m_Rr × m_Rr × m_Rr × m_Rr × m_Rr} {Z : m_Z} {H k i0 a0 u t dp : Nat} {X : m_PX} {Y : m_PY}
theorem m_swG1 : ∀ s, s < 49 → s ∈ [29, 36, 27, 28] ∨ ¬ q_sw s ∈ ([5, 6, 7, 8] : List Int32) := by decide
theorem m_swG {s : Nat} (hs : s < 49) (c1 : s ≠ 29) (c2 : s ≠ 36) (c3 : s ≠ 27) (c4 : s ≠ 28) {x : Int32} (hx : x ∈ ([5, 6, 7, 8] : List Int32)) : q_sw s ≠ x := by
  rcases m_swG1 s hs with h | h
  · simp only [List.mem_cons, List.not_mem_nil, or_false] at h
    omega
  · exact fun e => h (by rw [e]; exact hx)
theorem m_csF {rSi rT rV rS : m_TyC} {qn qu rd : m_Rr} {qd : Nat → Option Nat} {x1 : Int32} {s : Nat} (hg : f_X7_sign rd tk tg = some s) (hs : s < 49) (c1 : s ≠ 29) (c2 : s ≠ 36) (c3 : s ≠ 27) (c4 : s ≠ 28) : f_X7_readSingle rSi rT rV rS qn qu rd hn tk tv qd tg x1 = (f_X7_readSum rV rS qn qu rd hn tk tv qd tg x1).bind fun r16 => (f_X7_sign r16.2.2.1 tk tg).bind fun r17 => (q_e49 r17).bind fun u18 => (f_X7_isRelation r17).bind fun r20 => if (q_bz r20) = 0 then (f_X7_fail r16.2.2.1).bind fun r22 => some (r16.1, r16.2.1, r22, r16.2.2.2) else (f_X7_readSum rV rS r16.1 r16.2.1 (q_up r16.2.2.1 3 ((r16.2.2.1 3) + 1)) hn tk tv r16.2.2.2 tg x1).bind fun r23 => (f_X6_addOrder r23.1 r23.2.1 r23.2.2.2 r17 0).bind fun r24 => some (r24.1, r24.2.1, r23.2.2.1, r24.2.2) := by
  have d : ∀ {x : Int32}, x ∈ ([5, 6, 7, 8] : List Int32) → q_sw s ≠ x := fun hx => m_swG hs c1 c2 c3 c4 hx
  unfold f_X7_readSingle
  rw [hg, Option.bind_some, m_e49 hs, Option.bind_some, q_ix_nI hs (by decide), Option.bind_some, if_neg (d (x := 5) (by decide)), if_neg (d (x := 6) (by decide)), if_neg (d (x := 7) (by decide)), if_neg (d (x := 8) (by decide))]
theorem m_rel {s : Nat} (hs : s < 49) : f_X7_isRelation s = some (decide (44 ≤ s)) := by
  unfold f_X7_isRelation
  rw [m_e49 hs, Option.bind_some]
  by_cases h : 44 ≤ s
  · rw [decide_eq_true h]
    rcases (show s = 44 ∨ s = 45 ∨ s = 46 ∨ s = 47 ∨ s = 48 by omega) with e | e | e | e | e <;> rw [e] <;> rfl
  · rw [decide_eq_false h, if_neg (by omega), if_neg (by omega), if_neg (by omega), if_neg (by omega), if_neg (by omega)]
theorem m_csE {rSi rT rV rS : m_TyC} {qn qu rd : m_Rr} {qd : Nat → Option Nat} {x1 : Int32} (hs : ∀ qn qu rd qd x, rd 4 = 1 → f_X7_readSum rV rS qn qu rd hn tk tv qd tg x = some (qn, qu, rd, qd)) (h : rd 4 = 1) : f_X7_readSingle rSi rT rV rS qn qu rd hn tk tv qd tg x1 = some (qn, qu, rd, qd) := by
  rw [m_csF (m_signE h) (by decide) (by decide) (by decide) (by decide) (by decide), hs _ _ _ _ _ h, Option.bind_some]
  dsimp only
  rw [m_signE h, Option.bind_some, m_e49 (by decide), Option.bind_some, m_rel (by decide), Option.bind_some, if_pos (m_bzF (by decide)), m_failE h]; rfl
/-- NOT -/
theorem m_sin29 (hF : m_TF tp mt z n tk tg ts tl tv kn mf mm) {rSi rT rV rS : m_TyC} {rSi' rT' rV' rS' : m_TyR} (hV : dp < 8 → m_PP mt kn mf mm n tk tg tv hn V0 W Z H (dp + 1) rSi rSi') (h : m_PS mt kn mf mm n tg tv hn V0 W Z H k i0 a0 u t X Y) (hdp : dp ≤ 8) (h10 : Y.1 10 = nI dp) (s2 : tg t = some 29) :
    ∃ X' ok Y', f_X7_readSingle rSi rT rV rS X.1 X.2.1 X.2.2.1 hn tk tv X.2.2.2 tg (nI dp) = some X' ∧ f_X15_isSingle rSi' rT' rV' rS' Y.1 mt kn mf mm Y.2.1 Y.2.2.1 Y.2.2.2.1 Y.2.2.2.2 = some (ok, Y') ∧ m_Out mt kn mf mm n tg tv hn V0 W Z H k i0 a0 (u + 1) t dp X Y ok X' Y' := by
  have n400 : n ≤ 400 := hF.2.2.1
  have h1 := h.1
  have h3 := h.2.1
  have h9 := h.2.2.1
  obtain ⟨b1, b2⟩ := m_signP hF h3 (m_PS_n1 h) h1 s2
  have ht := m_lt hF h1 s2 (by omega)
  obtain ⟨s', s1, s2', s3, -, -, -⟩ := m_sg hF h1
  obtain rfl : s' = 29 := Option.some.inj (s2'.symm.trans s2)
  have i24 : f_X15_is Y.1 kn 24 = some (decide (29 = 29)) := m_isP (x := 29) h9 (by omega) s1 s3 (by decide)
  have hc : f_X7_readSingle rSi rT rV rS X.1 X.2.1 X.2.2.1 hn tk tv X.2.2.2 tg (nI dp) = (f_X7_takeDeeper X.2.2.1 (nI dp)).bind fun r18 => if (q_bz r18.1) = 0 then some (X.1, X.2.1, r18.2, X.2.2.2) else (rSi X.1 X.2.1 r18.2 hn tk tv X.2.2.2 tg (nI dp + 1)).bind fun r20 => (f_X6_addOrder r20.1 r20.2.1 r20.2.2.2 29 0).bind fun r21 => some (r21.1, r21.2.1, r20.2.2.1, r21.2.2) := by
    unfold f_X7_readSingle
    rw [b1, Option.bind_some, m_e49 b2, Option.bind_some, q_ix_nI b2 (by decide), Option.bind_some]
    rfl
  rw [hc]
  unfold f_X15_isSingle
  rw [i24, Option.bind_some, if_neg (m_bzT rfl)]
  rcases m_deepP hF h ht hdp h10 with ⟨e8, d1, d2⟩ | ⟨h8, rd1, md1, d1, d2, d3, d4, d5⟩
  · rw [d1, d2, Option.bind_some, Option.bind_some]
    exact ⟨_, _, _, rfl, rfl, ⟨fun _ _ => rfl, fun _ _ _ => rfl, fun _ _ _ => rfl⟩, Or.inl ⟨rfl, m_bad h3 h9 h1⟩⟩
  · obtain ⟨hE, hL⟩ := hV h8
    obtain ⟨X7, ok7, Y7, e1, e2, e3, e4⟩ := hL _ _ _ _ _ _ _ d4 d3
    dsimp only at e1 e2
    rw [d1, d2, Option.bind_some, Option.bind_some, if_neg (show ¬ q_bz true = 0 by decide), if_neg (show ¬ q_bz true = 0 by decide), show nI dp + 1 = nI (dp + 1) from nI_1 _]
    dsimp only
    rw [e1, e2, Option.bind_some, Option.bind_some]
    rcases e4 with ⟨rfl, e4⟩ | ⟨rfl, t7, e5, e6, e7⟩
    · obtain ⟨q1, q2, q3, q4, q5⟩ := m_addT (qn := X7.1) (qu := X7.2.1) (qd := X7.2.2.2) (d := 29) (v := 0) (by decide)
      rw [q4, Option.bind_some, if_neg (fun z => z (show q_bz false = 0 from rfl))]
      exact ⟨_, _, _, rfl, rfl, m_Fr_t d5 (m_Fr_t e3 ⟨q5, fun _ _ _ => rfl, fun _ _ _ => rfl⟩), Or.inl ⟨rfl, m_Bad_md e4 rfl⟩⟩
    · obtain ⟨qn', qu', qd', mp', pc', o1, o2, o3, o4⟩ := m_opP (d := 29) (w := 24) (v := 0) (u' := u + 1) n400 e6 (by decide) (fun N pc cs hpc => Or.inr (Or.inr (Or.inr (Or.inr (Or.inl ⟨rfl, by omega, rfl, Or.inr ⟨rfl, hpc⟩⟩)))))
      rw [o1, Option.bind_some, if_pos (show ¬ q_bz true = 0 by decide), o2, Option.bind_some]
      exact ⟨_, _, _, rfl, rfl, m_Fr_t d5 (m_Fr_t e3 (m_Fr_t o4 ⟨fun _ _ => rfl, fun j x1 x2 => m_up_n x2, fun _ _ _ => rfl⟩)), Or.inr ⟨rfl, t7, by omega, m_PS_md o3 (m_up_n (by decide)), by show q_up Y7.1 10 (Y7.1 10 - 1) 10 = _; rw [m_up_s, e7, m_dn dp h8]⟩⟩
/-- a test in brackets -/
theorem m_sin36 (hF : m_TF tp mt z n tk tg ts tl tv kn mf mm) {rSi rT rV rS : m_TyC} {rSi' rT' rV' rS' : m_TyR} (hS : dp < 8 → m_PP mt kn mf mm n tk tg tv hn V0 W Z H (dp + 1) rT rT') (h : m_PS mt kn mf mm n tg tv hn V0 W Z H k i0 a0 u t X Y) (hdp : dp ≤ 8) (h10 : Y.1 10 = nI dp) (s2 : tg t = some 36) :
    ∃ X' ok Y', f_X7_readSingle rSi rT rV rS X.1 X.2.1 X.2.2.1 hn tk tv X.2.2.2 tg (nI dp) = some X' ∧ f_X15_isSingle rSi' rT' rV' rS' Y.1 mt kn mf mm Y.2.1 Y.2.2.1 Y.2.2.2.1 Y.2.2.2.2 = some (ok, Y') ∧ m_Out mt kn mf mm n tg tv hn V0 W Z H k i0 a0 (u + 1) t dp X Y ok X' Y' := by
  have n400 : n ≤ 400 := hF.2.2.1
  have h1 := h.1
  have h3 := h.2.1
  have h9 := h.2.2.1
  obtain ⟨b1, b2⟩ := m_signP hF h3 (m_PS_n1 h) h1 s2
  have ht := m_lt hF h1 s2 (by omega)
  obtain ⟨s', s1, s2', s3, -, -, -⟩ := m_sg hF h1
  obtain rfl : s' = 36 := Option.some.inj (s2'.symm.trans s2)
  have i24 : f_X15_is Y.1 kn 24 = some (decide (36 = 29)) := m_isP (x := 29) h9 (by omega) s1 s3 (by decide)
  have i91 := m_isSgP (x := 36) (c := 91) h9 (by omega) s1 s3 (by decide) (by decide)
  have hc : f_X7_readSingle rSi rT rV rS X.1 X.2.1 X.2.2.1 hn tk tv X.2.2.2 tg (nI dp) = (f_X7_takeDeeper X.2.2.1 (nI dp)).bind fun r22 => if (q_bz r22.1) = 0 then some (X.1, X.2.1, r22.2, X.2.2.2) else (rT X.1 X.2.1 r22.2 hn tk tv X.2.2.2 tg (nI dp + 1)).bind fun r24 => (f_X7_take r24.2.2.1 tk tg 37).bind fun r25 => some (r24.1, r24.2.1, r25.2, r24.2.2.2) := by
    unfold f_X7_readSingle
    rw [b1, Option.bind_some, m_e49 b2, Option.bind_some, q_ix_nI b2 (by decide), Option.bind_some]
    rfl
  rw [hc]
  unfold f_X15_isSingle
  rw [i24, Option.bind_some, if_pos (m_bzF (by decide)), i91, Option.bind_some, if_neg (m_bzT rfl)]
  rcases m_deepP hF h ht hdp h10 with ⟨e8, d1, d2⟩ | ⟨h8, rd1, md1, d1, d2, d3, d4, d5⟩
  · rw [d1, d2, Option.bind_some, Option.bind_some]
    exact ⟨_, _, _, rfl, rfl, ⟨fun _ _ => rfl, fun _ _ _ => rfl, fun _ _ _ => rfl⟩, Or.inl ⟨rfl, m_bad h3 h9 h1⟩⟩
  · obtain ⟨hE, hL⟩ := hS h8
    obtain ⟨X7, ok7, Y7, e1, e2, e3, e4⟩ := hL _ _ _ _ _ _ _ d4 d3
    dsimp only at e1 e2
    rw [d1, d2, Option.bind_some, Option.bind_some, if_neg (show ¬ q_bz true = 0 by decide), if_neg (show ¬ q_bz true = 0 by decide), show nI dp + 1 = nI (dp + 1) from nI_1 _]
    dsimp only
    rw [e1, e2, Option.bind_some, Option.bind_some]
    rcases e4 with ⟨rfl, e4⟩ | ⟨rfl, t7, e5, e6, e7⟩
    · rw [m_takeE e4.1 (by decide) (by decide), Option.bind_some, if_neg (fun z => z (show q_bz false = 0 from rfl))]
      exact ⟨_, _, _, rfl, rfl, m_Fr_t d5 (m_Fr_t e3 ⟨fun _ _ => rfl, fun _ _ _ => rfl, fun _ _ _ => rfl⟩), Or.inl ⟨rfl, m_Bad_md e4 rfl⟩⟩
    · have n7 := m_PS_n1 e6
      obtain ⟨q, r1, r2, r3, -, -, -⟩ := m_sg hF e6.1
      have md9 : q_up Y7.1 10 (Y7.1 10 - 1) 9 = nI t7 := (m_up_n (by decide)).trans e6.2.2.1
      have md10 : q_up Y7.1 10 (Y7.1 10 - 1) 10 = nI dp := by rw [m_up_s, e7, m_dn dp h8]
      rw [if_pos (show ¬ q_bz true = 0 by decide), m_takeP hF e6.2.1 n7 e6.1 r2 (by decide), Option.bind_some, m_eatSgP (x := 37) md9 (by have := e6.1; omega) r1 r3 (by decide) (by decide), Option.bind_some]
      by_cases e : q = 37
      · subst e
        have ht7 := m_lt hF e6.1 r2 (by decide)
        rw [if_pos rfl, if_pos rfl]
        exact ⟨_, _, _, rfl, rfl, m_Fr_t d5 (m_Fr_t e3 ⟨fun _ _ => rfl, fun j x1 x2 => (m_up_n x1).trans (m_up_n x2), fun _ _ _ => rfl⟩), Or.inr ⟨rfl, t7 + 1, by omega, m_PS_k (m_adv n400 e6 ht7 (md' := q_up (q_up Y7.1 10 (Y7.1 10 - 1)) 9 (nI (t7 + 1))) m_up_s) (by omega), (show q_up (q_up Y7.1 10 (Y7.1 10 - 1)) 9 (nI (t7 + 1)) 10 = _ from (m_up_n (by decide)).trans md10)⟩⟩
      · rw [if_neg e, if_neg e]
        exact ⟨_, _, _, rfl, rfl, m_Fr_t d5 (m_Fr_t e3 ⟨fun _ _ => rfl, fun j x1 x2 => m_up_n x2, fun _ _ _ => rfl⟩), Or.inl ⟨rfl, m_bad e6.2.1 md9 e6.1⟩⟩
/-- HAS -/
theorem m_sin27 (hF : m_TF tp mt z n tk tg ts tl tv kn mf mm) {rSi rT rV rS : m_TyC} {rSi' rT' rV' rS' : m_TyR} {x1 : Int32} (h : m_PS mt kn mf mm n tg tv hn V0 W Z H k i0 a0 u t X Y) (h10 : Y.1 10 = nI dp) (s2 : tg t = some 27) :
    ∃ X' ok Y', f_X7_readSingle rSi rT rV rS X.1 X.2.1 X.2.2.1 hn tk tv X.2.2.2 tg x1 = some X' ∧ f_X15_isSingle rSi' rT' rV' rS' Y.1 mt kn mf mm Y.2.1 Y.2.2.1 Y.2.2.2.1 Y.2.2.2.2 = some (ok, Y') ∧ m_Out mt kn mf mm n tg tv hn V0 W Z H k i0 a0 (u + 1) t dp X Y ok X' Y' := by
  have n400 : n ≤ 400 := hF.2.2.1
  have h1 := h.1
  have h3 := h.2.1
  have h9 := h.2.2.1
  obtain ⟨b1, b2⟩ := m_signP hF h3 (m_PS_n1 h) h1 s2
  have ht := m_lt hF h1 s2 (by omega)
  obtain ⟨s', s1, s2', s3, -, -, -⟩ := m_sg hF h1
  obtain rfl : s' = 27 := Option.some.inj (s2'.symm.trans s2)
  have i24 : f_X15_is Y.1 kn 24 = some (decide (27 = 29)) := m_isP (x := 29) h9 (by omega) s1 s3 (by decide)
  have i91 := m_isSgP (x := 36) (c := 91) h9 (by omega) s1 s3 (by decide) (by decide)
  have i22 : f_X15_is Y.1 kn 22 = some (decide (27 = 27)) := m_isP (x := 27) h9 (by omega) s1 s3 (by decide)
  have adv := m_adv n400 h ht (md' := q_up Y.1 9 (nI (t + 1))) m_up_s
  have hc : f_X7_readSingle rSi rT rV rS X.1 X.2.1 X.2.2.1 hn tk tv X.2.2.2 tg x1 = (f_X7_readHook X.1 (q_up X.2.2.1 3 (nI (t + 1))) hn tk tv tg).bind fun r13 => (f_X6_addOrder X.1 X.2.1 X.2.2.2 27 r13.1).bind fun r14 => some (r14.1, r14.2.1, r13.2, r14.2.2) := by
    unfold f_X7_readSingle
    rw [b1, Option.bind_some, m_e49 b2, Option.bind_some, q_ix_nI b2 (by decide), Option.bind_some, h3, nI_1]
    rfl
  obtain ⟨hv, rd', qn', qu', qd', mp1, pc1, ok, Y', o1, o2, o3, o4, o5, o6⟩ := m_ofP (d := 27) (w := 22) hF adv (Or.inr (Or.inr ⟨rfl, rfl⟩))
  dsimp only at o1 o2 o3 o4 o5
  rw [hc]
  unfold f_X15_isSingle f_X15_isNamed
  rw [i24, Option.bind_some, if_pos (m_bzF (by decide)), i91, Option.bind_some, if_pos (m_bzF (by decide)), i22, Option.bind_some, if_neg (m_bzT rfl), h9, q_ix_nI (show t < 401 by omega) (by decide), Option.bind_some, s3, show m_kd 27 = 22 from rfl, o3, Option.bind_some, nI_1, o1, Option.bind_some, o4]
  dsimp only
  rw [o2]
  refine ⟨_, _, _, rfl, rfl, m_Fr_t m_Fr9 o5, ?_⟩
  rcases o6 with ⟨rfl, o6⟩ | ⟨rfl, o6, o7⟩
  · exact Or.inl ⟨rfl, o6⟩
  · exact Or.inr ⟨rfl, t + 1 + 1, by omega, o6, o7.trans (show q_up Y.1 9 (nI (t + 1)) 10 = _ from (m_up_n (by decide)).trans h10)⟩
/-- SAME -/
theorem m_sin28 (hF : m_TF tp mt z n tk tg ts tl tv kn mf mm) {rSi rT rV rS : m_TyC} {rSi' rT' rV' rS' : m_TyR} {x1 : Int32} (h : m_PS mt kn mf mm n tg tv hn V0 W Z H k i0 a0 u t X Y) (h10 : Y.1 10 = nI dp) (s2 : tg t = some 28) :
    ∃ X' ok Y', f_X7_readSingle rSi rT rV rS X.1 X.2.1 X.2.2.1 hn tk tv X.2.2.2 tg x1 = some X' ∧ f_X15_isSingle rSi' rT' rV' rS' Y.1 mt kn mf mm Y.2.1 Y.2.2.1 Y.2.2.2.1 Y.2.2.2.2 = some (ok, Y') ∧ m_Out mt kn mf mm n tg tv hn V0 W Z H k i0 a0 (u + 1) t dp X Y ok X' Y' := by
  have n400 : n ≤ 400 := hF.2.2.1
  have h1 := h.1
  have h3 := h.2.1
  have h9 := h.2.2.1
  obtain ⟨b1, b2⟩ := m_signP hF h3 (m_PS_n1 h) h1 s2
  have ht := m_lt hF h1 s2 (by omega)
  obtain ⟨s', s1, s2', s3, -, -, -⟩ := m_sg hF h1
  obtain rfl : s' = 28 := Option.some.inj (s2'.symm.trans s2)
  have i24 : f_X15_is Y.1 kn 24 = some (decide (28 = 29)) := m_isP (x := 29) h9 (by omega) s1 s3 (by decide)
  have i91 := m_isSgP (x := 36) (c := 91) h9 (by omega) s1 s3 (by decide) (by decide)
  have i22 : f_X15_is Y.1 kn 22 = some (decide (28 = 27)) := m_isP (x := 27) h9 (by omega) s1 s3 (by decide)
  have i23 : f_X15_is Y.1 kn 23 = some (decide (28 = 28)) := m_isP (x := 28) h9 (by omega) s1 s3 (by decide)
  have adv := m_adv n400 h ht (md' := q_up Y.1 9 (nI (t + 1))) m_up_s
  have hc : f_X7_readSingle rSi rT rV rS X.1 X.2.1 X.2.2.1 hn tk tv X.2.2.2 tg x1 = (f_X7_readSame X.1 X.2.1 (q_up X.2.2.1 3 (nI (t + 1))) hn tk tv X.2.2.2 tg).bind fun r15 => some (r15.1, r15.2.1, r15.2.2.1, r15.2.2.2) := by
    unfold f_X7_readSingle
    rw [b1, Option.bind_some, m_e49 b2, Option.bind_some, q_ix_nI b2 (by decide), Option.bind_some, h3, nI_1]
    rfl
  obtain ⟨X', mp1, pc1, ok1, Y1, o1, o2, o3, o4⟩ := m_sameP hF adv
  dsimp only at o1 o2 o3 o4
  rw [hc, o1, Option.bind_some]
  unfold f_X15_isSingle f_X15_isNamed
  rw [i24, Option.bind_some, if_pos (m_bzF (by decide)), i91, Option.bind_some, if_pos (m_bzF (by decide)), i22, Option.bind_some, if_pos (m_bzF (by decide)), i23, Option.bind_some, if_neg (m_bzT rfl), h9, q_ix_nI (show t < 401 by omega) (by decide), Option.bind_some, s3, show m_kd 28 = 23 from rfl, o2, Option.bind_some, nI_1]
  dsimp only
  rw [o3, Option.bind_some, Option.bind_some]
  rcases o4 with ⟨rfl, o4, o5⟩ | ⟨rfl, ok, Y', o4, o5, o6⟩
  · rw [if_pos (show q_bz false = 0 from rfl)]
    exact ⟨_, _, _, rfl, rfl, m_Fr_t m_Fr9 o4, Or.inl ⟨rfl, o5⟩⟩
  · rw [if_neg (show ¬ q_bz true = 0 by decide), o4, Option.bind_some]
    rcases o6 with ⟨rfl, o6⟩ | ⟨rfl, o6, o7⟩
    · rw [if_pos (show q_bz false = 0 from rfl)]
      exact ⟨_, _, _, rfl, rfl, m_Fr_t m_Fr9 o5, Or.inl ⟨rfl, o6⟩⟩
    · rw [if_neg (show ¬ q_bz true = 0 by decide)]
      exact ⟨_, _, _, rfl, rfl, m_Fr_t m_Fr9 o5, Or.inr ⟨rfl, t + 1 + 2, by omega, o6, o7.trans (show q_up Y.1 9 (nI (t + 1)) 10 = _ from (m_up_n (by decide)).trans h10)⟩⟩
end
