/-! MATH: products, on both sides -/
section
variable {tp mt tk ts tl tv kn mf mm hn : m_Rr} {z n : Nat} {tg : Nat → Option Nat} {V0 : m_V} {W : m_Rr × m_Rr × m_Rr × m_Rr × m_Rr} {Z : m_Z} {H dp : Nat}
theorem m_proE {rV rS : m_TyC} {qn qu rd : m_Rr} {qd : Nat → Option Nat} {x1 c : Int32} {fu : Nat} (h : rd 4 = 1) : f_X7_readProduct_L5 rV rS hn tk tv tg x1 (fu + 1) qn qu rd qd c = some (qn, qu, rd, qd) := by
  rw [f_X7_readProduct_L5]
  by_cases h4 : (400 : Int32) ≤ c
  · rw [if_pos h4]
  · rw [if_neg h4, m_signE h, Option.bind_some, m_e49 (by decide), Option.bind_some, if_neg (by decide), Option.bind_some, m_e49 (by decide), Option.bind_some, if_neg (by decide)]
theorem m_proL (hF : m_TF tp mt z n tk tg ts tl tv kn mf mm) {rV rS : m_TyC} {rV' rS' : m_TyR} (hv : m_PP mt kn mf mm n tk tg tv hn V0 W Z H dp (f_X7_readValue rV rS) (f_X15_isValue rV' rS')) : ∀ (g : Nat) (k i0 a0 u t : Nat) (X : m_PX) (Y : m_PY) (c fu fu' : Nat), m_PS mt kn mf mm n tg tv hn V0 W Z H k i0 a0 (u + 1) t X Y → Y.1 10 = nI dp → n - t ≤ g → c ≤ t → g < fu → g < fu' →
    ∃ X' st Y', f_X7_readProduct_L5 rV rS hn tk tv tg (nI dp) fu X.1 X.2.1 X.2.2.1 X.2.2.2 (nI c) = some X' ∧ f_X15_isProduct_L5 rV' rS' mt kn mf mm fu' Y.1 Y.2.1 Y.2.2.1 Y.2.2.2.1 Y.2.2.2.2 = some (st, Y') ∧ m_Fr X Y X' Y' ∧ ((st = 1 ∧ m_Bad n X' Y') ∨ (st = 0 ∧ ∃ t', t ≤ t' ∧ m_PS mt kn mf mm n tg tv hn V0 W Z H k i0 a0 (u + 1) t' X' Y' ∧ Y'.1 10 = nI dp)) := by
  have n400 : n ≤ 400 := hF.2.2.1
  intro g
  induction g with
  | zero =>
    intro k i0 a0 u t X Y c fu fu' h h10 hg hc hfu hfu'
    obtain ⟨fu, rfl⟩ : ∃ q, fu = q + 1 := ⟨fu - 1, by omega⟩
    obtain ⟨fu', rfl⟩ : ∃ q, fu' = q + 1 := ⟨fu' - 1, by omega⟩
    have h1 := h.1
    have h3 := h.2.1
    have h9 := h.2.2.1
    obtain ⟨s, s1, s2, s3, -, -, s5⟩ := m_sg hF h1
    obtain ⟨b1, b2⟩ := m_signP hF h3 (m_PS_n1 h) h1 s2
    have hs := s5 (by omega)
    have i1 := m_isSgP (x := 42) (c := 42) h9 (by omega) s1 s3 (by decide) (by decide)
    have i2 := m_isSgP (x := 43) (c := 47) h9 (by omega) s1 s3 (by decide) (by decide)
    rw [f_X7_readProduct_L5, f_X15_isProduct_L5, i1, Option.bind_some, if_neg (show ¬ ¬ q_bz (decide (s = 42)) = 0 from fun y => y (m_bzF (show ¬ s = 42 by omega))), i2, Option.bind_some, if_pos (m_bzF (show ¬ s = 43 by omega))]
    refine ⟨X, 0, Y, ?_, rfl, m_Fr_r, Or.inr ⟨rfl, t, Nat.le_refl _, h, h10⟩⟩
    by_cases h4 : (400 : Int32) ≤ nI c
    · rw [if_pos h4]
    · rw [if_neg h4, b1, Option.bind_some, m_e49 b2, Option.bind_some, if_neg (show ¬ s = 42 by omega), Option.bind_some, m_e49 b2, Option.bind_some, if_neg (show ¬ s = 43 by omega)]
  | succ g ih =>
    intro k i0 a0 u t X Y c fu fu' h h10 hg hc hfu hfu'
    obtain ⟨fu, rfl⟩ : ∃ q, fu = q + 1 := ⟨fu - 1, by omega⟩
    obtain ⟨fu', rfl⟩ : ∃ q, fu' = q + 1 := ⟨fu' - 1, by omega⟩
    have h1 := h.1
    have h3 := h.2.1
    have h9 := h.2.2.1
    obtain ⟨s, s1, s2, s3, -, -, s5⟩ := m_sg hF h1
    obtain ⟨b1, b2⟩ := m_signP hF h3 (m_PS_n1 h) h1 s2
    have i1 := m_isSgP (x := 42) (c := 42) h9 (by omega) s1 s3 (by decide) (by decide)
    have i2 := m_isSgP (x := 43) (c := 47) h9 (by omega) s1 s3 (by decide) (by decide)
    rw [f_X7_readProduct_L5, f_X15_isProduct_L5, i1, Option.bind_some]
    by_cases hs : s = 42 ∨ s = 43
    · have ht := m_lt hF h1 s2 (by omega)
      have adv := m_adv n400 h ht (md' := q_up Y.1 9 (nI (t + 1))) m_up_s
      obtain ⟨X7, ok7, Y7, e1, e2, e3, e4⟩ := hv.2 _ _ _ _ _ _ _ adv (show q_up Y.1 9 (nI (t + 1)) 10 = _ from (m_up_n (by decide)).trans h10)
      dsimp only at e1 e2
      rw [if_neg (show ¬ (400 : Int32) ≤ nI c from nI_ge (b := 400) (by omega) (by decide)), b1, Option.bind_some, m_e49 b2, Option.bind_some]
      have hb : m_bin s (if s = 42 then 36 else 37) := by
        unfold m_bin
        rcases hs with e | e <;> rw [e] <;> decide
      have lc : (if s = 42 then (some s).bind fun r6 => (q_e49 r6).bind fun u7 => (f_X7_readValue rV rS X.1 X.2.1 (q_up X.2.2.1 3 (X.2.2.1 3 + 1)) hn tk tv X.2.2.2 tg (nI dp)).bind fun r9 => (f_X6_addOrder r9.1 r9.2.1 r9.2.2.2 r6 0).bind fun r10 => f_X7_readProduct_L5 rV rS hn tk tv tg (nI dp) fu r10.1 r10.2.1 r9.2.2.1 r10.2.2 (nI c + 1)
          else (some s).bind fun r11 => (q_e49 r11).bind fun u12 => if r11 = 43 then (some s).bind fun r15 => (q_e49 r15).bind fun u16 => (f_X7_readValue rV rS X.1 X.2.1 (q_up X.2.2.1 3 (X.2.2.1 3 + 1)) hn tk tv X.2.2.2 tg (nI dp)).bind fun r18 => (f_X6_addOrder r18.1 r18.2.1 r18.2.2.2 r15 0).bind fun r19 => f_X7_readProduct_L5 rV rS hn tk tv tg (nI dp) fu r19.1 r19.2.1 r18.2.2.1 r19.2.2 (nI c + 1) else some (X.1, X.2.1, X.2.2.1, X.2.2.2))
          = (f_X6_addOrder X7.1 X7.2.1 X7.2.2.2 s 0).bind fun r10 => f_X7_readProduct_L5 rV rS hn tk tv tg (nI dp) fu r10.1 r10.2.1 X7.2.2.1 r10.2.2 (nI (c + 1)) := by
        rw [h3, nI_1, nI_1, e1]
        by_cases e : s = 42
        · rw [if_pos e, Option.bind_some, m_e49 b2]; rfl
        · rw [if_neg e]
          simp only [Option.bind_some, m_e49 b2]
          rw [if_pos (show s = 43 by omega)]
      rw [lc]
      have lr : (if ¬ q_bz (decide (s = 42)) = 0 then (some (decide (s = 42))).bind fun r3 => if q_bz r3 = 0 then (f_X15_isValue rV' rS' (q_up Y.1 9 (Y.1 9 + 1)) mt kn mf mm Y.2.1 Y.2.2.1 Y.2.2.2.1 Y.2.2.2.2).bind fun r5 => if ¬ q_bz r5.1 = 0 then (f_X15_put r5.2.2.2.1 r5.2.2.2.2.1 37).bind fun r7 => f_X15_isProduct_L5 rV' rS' mt kn mf mm fu' r5.2.1 r5.2.2.1 r7.1 r7.2 r5.2.2.2.2.2 else some (1, r5.2.1, r5.2.2.1, r5.2.2.2.1, r5.2.2.2.2.1, r5.2.2.2.2.2)
            else (f_X15_isValue rV' rS' (q_up Y.1 9 (Y.1 9 + 1)) mt kn mf mm Y.2.1 Y.2.2.1 Y.2.2.2.1 Y.2.2.2.2).bind fun r8 => if ¬ q_bz r8.1 = 0 then (f_X15_put r8.2.2.2.1 r8.2.2.2.2.1 36).bind fun r10 => f_X15_isProduct_L5 rV' rS' mt kn mf mm fu' r8.2.1 r8.2.2.1 r10.1 r10.2 r8.2.2.2.2.2 else some (1, r8.2.1, r8.2.2.1, r8.2.2.2.1, r8.2.2.2.2.1, r8.2.2.2.2.2)
          else (f_X15_isSign Y.1 kn 47).bind fun r11 => if q_bz r11 = 0 then some (0, Y.1, Y.2.1, Y.2.2.1, Y.2.2.2.1, Y.2.2.2.2) else (some (decide (s = 42))).bind fun r13 => if q_bz r13 = 0 then (f_X15_isValue rV' rS' (q_up Y.1 9 (Y.1 9 + 1)) mt kn mf mm Y.2.1 Y.2.2.1 Y.2.2.2.1 Y.2.2.2.2).bind fun r15 => if ¬ q_bz r15.1 = 0 then (f_X15_put r15.2.2.2.1 r15.2.2.2.2.1 37).bind fun r17 => f_X15_isProduct_L5 rV' rS' mt kn mf mm fu' r15.2.1 r15.2.2.1 r17.1 r17.2 r15.2.2.2.2.2 else some (1, r15.2.1, r15.2.2.1, r15.2.2.2.1, r15.2.2.2.2.1, r15.2.2.2.2.2)
            else (f_X15_isValue rV' rS' (q_up Y.1 9 (Y.1 9 + 1)) mt kn mf mm Y.2.1 Y.2.2.1 Y.2.2.2.1 Y.2.2.2.2).bind fun r18 => if ¬ q_bz r18.1 = 0 then (f_X15_put r18.2.2.2.1 r18.2.2.2.2.1 36).bind fun r20 => f_X15_isProduct_L5 rV' rS' mt kn mf mm fu' r18.2.1 r18.2.2.1 r20.1 r20.2 r18.2.2.2.2.2 else some (1, r18.2.1, r18.2.2.1, r18.2.2.2.1, r18.2.2.2.2.1, r18.2.2.2.2.2))
          = if ¬ q_bz ok7 = 0 then (f_X15_put Y7.2.2.1 Y7.2.2.2.1 (if s = 42 then 36 else 37)).bind fun r7 => f_X15_isProduct_L5 rV' rS' mt kn mf mm fu' Y7.1 Y7.2.1 r7.1 r7.2 Y7.2.2.2.2 else some (1, Y7) := by
        rw [h9, nI_1, e2]
        by_cases e : s = 42
        · rw [if_pos (m_bzT e), Option.bind_some, if_neg (m_bzT e), if_pos e]; rfl
        · rw [if_neg (fun y => y (m_bzF e)), i2, Option.bind_some, if_neg (m_bzT (show s = 43 by omega)), Option.bind_some, if_pos (m_bzF e), if_neg e]; rfl
      rw [lr]
      rcases e4 with ⟨rfl, e4⟩ | ⟨rfl, t7, e5, e6, e7⟩
      · obtain ⟨q1, q2, q3, q4, q5⟩ := m_addT (qn := X7.1) (qu := X7.2.1) (qd := X7.2.2.2) (d := s) (v := 0) b2
        obtain ⟨fu, rfl⟩ : ∃ q, fu = q + 1 := ⟨fu - 1, by omega⟩
        rw [q4, Option.bind_some, m_proE e4.1, if_neg (fun y => y (show q_bz false = 0 from rfl))]
        exact ⟨_, _, _, rfl, rfl, m_Fr_t m_Fr9 (m_Fr_t e3 ⟨q5, fun _ _ _ => rfl, fun _ _ _ => rfl⟩), Or.inl ⟨rfl, m_Bad_md e4 rfl⟩⟩
      · obtain ⟨qn', qu', qd', mp', pc', o1, o2, o3, o4⟩ := m_opP (d := s) (w := if s = 42 then 36 else 37) (v := 0) (u' := u + 1) n400 e6 b2 (fun N pc cs hpc => m_O2 hb hpc)
        rw [o1, Option.bind_some, if_pos (show ¬ q_bz true = 0 by decide), o2, Option.bind_some]
        have h67 := e6.1
        obtain ⟨X', st, Y', f1, f2, f3, f4⟩ := ih k i0 a0 u t7 _ _ (c + 1) fu fu' o3 e7 (by omega) (by omega) (by omega) (by omega)
        dsimp only at f1 f2
        refine ⟨X', st, Y', f1, f2, m_Fr_t m_Fr9 (m_Fr_t e3 (m_Fr_t o4 f3)), ?_⟩
        rcases f4 with f4 | ⟨f5, t', f6, f7⟩
        · exact Or.inl f4
        · exact Or.inr ⟨f5, t', by omega, f7⟩
    · rw [if_neg (show ¬ ¬ q_bz (decide (s = 42)) = 0 from fun y => y (m_bzF (show ¬ s = 42 by omega))), i2, Option.bind_some, if_pos (m_bzF (show ¬ s = 43 by omega))]
      refine ⟨X, 0, Y, ?_, rfl, m_Fr_r, Or.inr ⟨rfl, t, Nat.le_refl _, h, h10⟩⟩
      by_cases h4 : (400 : Int32) ≤ nI c
      · rw [if_pos h4]
      · rw [if_neg h4, b1, Option.bind_some, m_e49 b2, Option.bind_some, if_neg (show ¬ s = 42 by omega), Option.bind_some, m_e49 b2, Option.bind_some, if_neg (show ¬ s = 43 by omega)]
theorem m_product (hF : m_TF tp mt z n tk tg ts tl tv kn mf mm) {rV rS : m_TyC} {rV' rS' : m_TyR} (hv : m_PP mt kn mf mm n tk tg tv hn V0 W Z H dp (f_X7_readValue rV rS) (f_X15_isValue rV' rS')) : m_PP mt kn mf mm n tk tg tv hn V0 W Z H dp (f_X7_readProduct rV rS) (f_X15_isProduct rV' rS') := by
  have n400 : n ≤ 400 := hF.2.2.1
  refine ⟨fun qn qu rd qd x h => ?_, fun k i0 a0 u t X Y h h10 => ?_⟩
  · unfold f_X7_readProduct
    rw [hv.1 _ _ _ _ _ h, Option.bind_some]
    dsimp only
    rw [m_proE h]; rfl
  · obtain ⟨X7, ok7, Y7, e1, e2, e3, e4⟩ := hv.2 _ _ _ _ _ _ _ h h10
    unfold f_X7_readProduct f_X15_isProduct
    rw [e1, e2, Option.bind_some, Option.bind_some]
    rcases e4 with ⟨rfl, e4⟩ | ⟨rfl, t7, e5, e6, e7⟩
    · rw [m_proE e4.1, if_neg (fun y => y (show q_bz false = 0 from rfl))]
      exact ⟨_, _, _, rfl, rfl, e3, Or.inl ⟨rfl, e4⟩⟩
    · obtain ⟨X', st, Y', f1, f2, f3, f4⟩ := m_proL hF hv 400 _ _ _ _ _ _ _ 0 4096 4096 e6 e7 (by omega) (by omega) (by omega) (by omega)
      rw [show f_X7_readProduct_L5 rV rS hn tk tv tg (nI dp) 4096 X7.1 X7.2.1 X7.2.2.1 X7.2.2.2 0 = some X' from f1, if_pos (show ¬ q_bz true = 0 by decide), f2, Option.bind_some, Option.bind_some]
      rcases f4 with ⟨rfl, f4⟩ | ⟨rfl, t', f5, f6, f7⟩
      · exact ⟨_, _, _, rfl, rfl, m_Fr_t e3 f3, Or.inl ⟨rfl, f4⟩⟩
      · exact ⟨_, _, _, rfl, rfl, m_Fr_t e3 f3, Or.inr ⟨rfl, t', by omega, f6, f7⟩⟩
end
