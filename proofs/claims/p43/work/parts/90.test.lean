/-! MATH: tests joined by OR, on both sides -/
section
variable {tp mt tk ts tl tv kn mf mm hn : m_Rr} {z n : Nat} {tg : Nat → Option Nat} {V0 : m_V} {W : m_Rr × m_Rr × m_Rr × m_Rr × m_Rr} {Z : m_Z} {H dp : Nat}
theorem m_tstE {rSi rT rV rS : m_TyC} {qn qu rd : m_Rr} {qd : Nat → Option Nat} {x1 c : Int32} {fu : Nat} (h : rd 4 = 1) : f_X7_readTest_L5 rSi rT rV rS hn tk tv tg x1 (fu + 1) qn qu rd qd c = some (qn, qu, rd, qd) := by
  rw [f_X7_readTest_L5]
  by_cases h4 : (400 : Int32) ≤ c
  · rw [if_pos h4]
  · rw [if_neg h4, m_signE h, Option.bind_some, m_e49 (by decide), Option.bind_some, if_neg (by decide)]
theorem m_tstL (hF : m_TF tp mt z n tk tg ts tl tv kn mf mm) {rSi rT rV rS : m_TyC} {rSi' rT' rV' rS' : m_TyR} (hv : m_PP mt kn mf mm n tk tg tv hn V0 W Z H dp (f_X7_readBoth rSi rT rV rS) (f_X15_isBoth rSi' rT' rV' rS')) : ∀ (g : Nat) (k i0 a0 u t : Nat) (X : m_PX) (Y : m_PY) (c fu fu' : Nat), m_PS mt kn mf mm n tg tv hn V0 W Z H k i0 a0 (u + 1) t X Y → Y.1 10 = nI dp → n - t ≤ g → c ≤ t → g < fu → g < fu' →
    ∃ X' st Y', f_X7_readTest_L5 rSi rT rV rS hn tk tv tg (nI dp) fu X.1 X.2.1 X.2.2.1 X.2.2.2 (nI c) = some X' ∧ f_X15_isTest_L5 rSi' rT' rV' rS' mt kn mf mm fu' Y.1 Y.2.1 Y.2.2.1 Y.2.2.2.1 Y.2.2.2.2 = some (st, Y') ∧ m_Fr X Y X' Y' ∧ ((st = 1 ∧ m_Bad n X' Y') ∨ (st = 0 ∧ ∃ t', t ≤ t' ∧ m_PS mt kn mf mm n tg tv hn V0 W Z H k i0 a0 (u + 1) t' X' Y' ∧ Y'.1 10 = nI dp)) := by
  have n400 : n ≤ 400 := hF.2.2.1
  intro g
  induction g with
  | zero =>
    intro k i0 a0 u t X Y c fu fu' h h10 hg hc hfu hfu'
    obtain ⟨fu, rfl⟩ : ∃ q, fu = q + 1 := ⟨fu - 1, by omega⟩
    obtain ⟨fu', rfl⟩ : ∃ q, fu' = q + 1 := ⟨fu' - 1, by omega⟩
    have h1 := h.1
    have h3 := h.2.1
    have h9 := h.2.2.1
    obtain ⟨s, s1, s2, s3, -, -, s5⟩ := m_sg hF h1
    obtain ⟨b1, b2⟩ := m_signP hF h3 (m_PS_n1 h) h1 s2
    have hs := s5 (by omega)
    have i1 : f_X15_eat Y.1 kn 26 = some (if s = 31 then (true, q_up Y.1 9 (nI (t + 1))) else (false, Y.1)) := m_eatP (x := 31) h9 (by omega) s1 s3 (by decide)
    rw [f_X7_readTest_L5, f_X15_isTest_L5, i1, if_neg (show ¬ s = 31 by omega)]
    refine ⟨X, 0, Y, ?_, rfl, m_Fr_r, Or.inr ⟨rfl, t, Nat.le_refl _, h, h10⟩⟩
    by_cases h4 : (400 : Int32) ≤ nI c
    · rw [if_pos h4]
    · rw [if_neg h4, b1, Option.bind_some, m_e49 b2, Option.bind_some, if_neg (show ¬ s = 31 by omega)]
  | succ g ih =>
    intro k i0 a0 u t X Y c fu fu' h h10 hg hc hfu hfu'
    obtain ⟨fu, rfl⟩ : ∃ q, fu = q + 1 := ⟨fu - 1, by omega⟩
    obtain ⟨fu', rfl⟩ : ∃ q, fu' = q + 1 := ⟨fu' - 1, by omega⟩
    have h1 := h.1
    have h3 := h.2.1
    have h9 := h.2.2.1
    obtain ⟨s, s1, s2, s3, -, -, s5⟩ := m_sg hF h1
    obtain ⟨b1, b2⟩ := m_signP hF h3 (m_PS_n1 h) h1 s2
    have i1 : f_X15_eat Y.1 kn 26 = some (if s = 31 then (true, q_up Y.1 9 (nI (t + 1))) else (false, Y.1)) := m_eatP (x := 31) h9 (by omega) s1 s3 (by decide)
    rw [f_X7_readTest_L5, f_X15_isTest_L5, i1]
    by_cases hs : s = 31
    · have ht := m_lt hF h1 s2 (by omega)
      have adv := m_adv n400 h ht (md' := q_up Y.1 9 (nI (t + 1))) m_up_s
      obtain ⟨X7, ok7, Y7, e1, e2, e3, e4⟩ := hv.2 _ _ _ _ _ _ _ adv (show q_up Y.1 9 (nI (t + 1)) 10 = _ from (m_up_n (by decide)).trans h10)
      dsimp only at e1 e2
      rw [if_neg (show ¬ (400 : Int32) ≤ nI c from nI_ge (b := 400) (by omega) (by decide)), b1, Option.bind_some, m_e49 b2, Option.bind_some, if_pos hs, if_pos hs, Option.bind_some, if_neg (show ¬ q_bz true = 0 by decide), h3, nI_1, nI_1]
      dsimp only
      rw [e1, e2, Option.bind_some, Option.bind_some]
      have hb : m_bin 31 26 := Or.inr (Or.inl ⟨rfl, rfl⟩)
      rcases e4 with ⟨rfl, e4⟩ | ⟨rfl, t7, e5, e6, e7⟩
      · obtain ⟨q1, q2, q3, q4, q5⟩ := m_addT (qn := X7.1) (qu := X7.2.1) (qd := X7.2.2.2) (d := 31) (v := 0) (by decide)
        obtain ⟨fu, rfl⟩ : ∃ q, fu = q + 1 := ⟨fu - 1, by omega⟩
        rw [q4, Option.bind_some, m_tstE e4.1, if_neg (show ¬ ¬ q_bz false = 0 from fun y => y rfl)]
        exact ⟨_, _, _, rfl, rfl, m_Fr_t m_Fr9 (m_Fr_t e3 ⟨q5, fun _ _ _ => rfl, fun _ _ _ => rfl⟩), Or.inl ⟨rfl, m_Bad_md e4 rfl⟩⟩
      · obtain ⟨qn', qu', qd', mp', pc', o1, o2, o3, o4⟩ := m_opP (d := 31) (w := 26) (v := 0) (u' := u + 1) n400 e6 (by decide) (fun N pc cs hpc => m_O2 hb hpc)
        rw [o1, Option.bind_some, if_pos (show ¬ q_bz true = 0 by decide), o2, Option.bind_some]
        have h67 := e6.1
        obtain ⟨X', st, Y', f1, f2, f3, f4⟩ := ih k i0 a0 u t7 _ _ (c + 1) fu fu' o3 e7 (by omega) (by omega) (by omega) (by omega)
        dsimp only at f1 f2
        refine ⟨X', st, Y', f1, f2, m_Fr_t m_Fr9 (m_Fr_t e3 (m_Fr_t o4 f3)), ?_⟩
        rcases f4 with f4 | ⟨f5, t', f6, f7⟩
        · exact Or.inl f4
        · exact Or.inr ⟨f5, t', by omega, f7⟩
    · rw [if_neg hs]
      refine ⟨X, 0, Y, ?_, rfl, m_Fr_r, Or.inr ⟨rfl, t, Nat.le_refl _, h, h10⟩⟩
      by_cases h4 : (400 : Int32) ≤ nI c
      · rw [if_pos h4]
      · rw [if_neg h4, b1, Option.bind_some, m_e49 b2, Option.bind_some, if_neg hs]
theorem m_tstP (hF : m_TF tp mt z n tk tg ts tl tv kn mf mm) {rSi rT rV rS : m_TyC} {rSi' rT' rV' rS' : m_TyR} (hv : m_PP mt kn mf mm n tk tg tv hn V0 W Z H dp (f_X7_readBoth rSi rT rV rS) (f_X15_isBoth rSi' rT' rV' rS')) : m_PP mt kn mf mm n tk tg tv hn V0 W Z H dp (f_X7_readTest rSi rT rV rS) (f_X15_isTest rSi' rT' rV' rS') := by
  have n400 : n ≤ 400 := hF.2.2.1
  refine ⟨fun qn qu rd qd x h => ?_, fun k i0 a0 u t X Y h h10 => ?_⟩
  · unfold f_X7_readTest
    rw [hv.1 _ _ _ _ _ h, Option.bind_some]
    dsimp only
    rw [m_tstE h]; rfl
  · obtain ⟨X7, ok7, Y7, e1, e2, e3, e4⟩ := hv.2 _ _ _ _ _ _ _ h h10
    unfold f_X7_readTest f_X15_isTest
    rw [e1, e2, Option.bind_some, Option.bind_some]
    rcases e4 with ⟨rfl, e4⟩ | ⟨rfl, t7, e5, e6, e7⟩
    · rw [m_tstE e4.1, if_neg (show ¬ ¬ q_bz false = 0 from fun y => y rfl)]
      exact ⟨_, _, _, rfl, rfl, e3, Or.inl ⟨rfl, e4⟩⟩
    · obtain ⟨X', st, Y', f1, f2, f3, f4⟩ := m_tstL hF hv 400 _ _ _ _ _ _ _ 0 4096 4096 e6 e7 (by omega) (by omega) (by omega) (by omega)
      rw [show f_X7_readTest_L5 rSi rT rV rS hn tk tv tg (nI dp) 4096 X7.1 X7.2.1 X7.2.2.1 X7.2.2.2 0 = some X' from f1, if_pos (show ¬ q_bz true = 0 by decide), f2, Option.bind_some, Option.bind_some]
      rcases f4 with ⟨rfl, f4⟩ | ⟨rfl, t', f5, f6, f7⟩
      · exact ⟨_, _, _, rfl, rfl, m_Fr_t e3 f3, Or.inl ⟨rfl, f4⟩⟩
      · exact ⟨_, _, _, rfl, rfl, m_Fr_t e3 f3, Or.inr ⟨rfl, t', by omega, f6, f7⟩⟩
end
