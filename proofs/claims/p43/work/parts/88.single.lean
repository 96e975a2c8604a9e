/-! MATH: two sums and what stands between; a single test -/
section
variable {tp mt tk ts tl tv kn mf mm hn : m_Rr} {z n : Nat} {tg : Nat → Option Nat} {V0 : m_V} {W : m_Rr × m_Rr × m_Rr × m_Rr × m_Rr} {Z : m_Z} {H k i0 a0 u t dp : Nat} {X : m_PX} {Y : m_PY}
def m_rw (s : Nat) : Int32 := if s = 44 then 38 else if s = 45 then 39 else if s = 46 then 42 else if s = 47 then 43 else 44
/-- the reference at two sums -/
theorem m_isg {rSi rT rV rS : m_TyR} {md mr mp pc pw : m_Rr} (h9 : md 9 = nI t) (ht : t < 401) {s : Nat} (hs : s < 49) (hk : kn t = m_kd s) (c1 : s ≠ 29) (c2 : s ≠ 36) (c3 : s ≠ 27) (c4 : s ≠ 28) {ok : Bool} {Y7 : m_PY} (h7 : f_X15_isSum rV rS md mt kn mf mm mr mp pc pw = some (ok, Y7)) {t7 s' : Nat} (g : ok = true → Y7.1 9 = nI t7 ∧ t7 < 401 ∧ s' < 49 ∧ kn t7 = m_kd s') : f_X15_isSingle rSi rT rV rS md mt kn mf mm mr mp pc pw =
    if ok = true then if 44 ≤ s' then (f_X15_isSum rV rS (q_up Y7.1 9 (nI (t7 + 1))) mt kn mf mm Y7.2.1 Y7.2.2.1 Y7.2.2.2.1 Y7.2.2.2.2).bind fun r => if ¬ q_bz r.1 = 0 then (f_X15_put r.2.2.2.1 r.2.2.2.2.1 (m_rw s')).bind fun r24 => some (true, r.2.1, r.2.2.1, r24.1, r24.2, r.2.2.2.2.2) else some (false, r.2.1, r.2.2.1, r.2.2.2.1, r.2.2.2.2.1, r.2.2.2.2.2) else some (false, Y7) else some (false, Y7) := by
  have i24 : f_X15_is md kn 24 = some (decide (s = 29)) := m_isP (x := 29) h9 ht hs hk (by decide)
  have i91 := m_isSgP (x := 36) (c := 91) h9 ht hs hk (by decide) (by decide)
  have i22 : f_X15_is md kn 22 = some (decide (s = 27)) := m_isP (x := 27) h9 ht hs hk (by decide)
  have i23 : f_X15_is md kn 23 = some (decide (s = 28)) := m_isP (x := 28) h9 ht hs hk (by decide)
  unfold f_X15_isSingle
  rw [i24, Option.bind_some, if_pos (m_bzF c1), i91, Option.bind_some, if_pos (m_bzF c2), i22, Option.bind_some, if_pos (m_bzF c3), i23, Option.bind_some, if_pos (m_bzF c4), h7, Option.bind_some]
  cases ok with
  | false => rfl
  | true =>
    obtain ⟨g9, gt, gs, gk⟩ := g rfl
    have j1 := m_isSgP (x := 44) (c := 60) g9 gt gs gk (by decide) (by decide)
    have j2 := m_isSgP (x := 45) (c := 62) g9 gt gs gk (by decide) (by decide)
    have j3 := m_isSgP (x := 46) (c := 61) g9 gt gs gk (by decide) (by decide)
    have j4 : f_X15_is Y7.1 kn 300 = some (decide (s' = 47)) := m_isP (x := 47) g9 gt gs gk (by decide)
    have j5 : f_X15_is Y7.1 kn 301 = some (decide (s' = 48)) := m_isP (x := 48) g9 gt gs gk (by decide)
    rw [if_pos (show ¬ q_bz true = 0 by decide), if_pos rfl]
    dsimp only
    rw [j1, Option.bind_some]
    by_cases e1 : s' = 44
    · subst e1
      rw [if_neg (m_bzT rfl), if_pos (by decide), g9, nI_1]; rfl
    · rw [if_pos (m_bzF e1), j2, Option.bind_some]
      by_cases e2 : s' = 45
      · subst e2
        rw [if_neg (m_bzT rfl), if_pos (by decide), g9, nI_1]; rfl
      · rw [if_pos (m_bzF e2), j3, Option.bind_some]
        by_cases e3 : s' = 46
        · subst e3
          rw [if_neg (m_bzT rfl), if_pos (by decide), g9, nI_1]; rfl
        · rw [if_pos (m_bzF e3), j4, Option.bind_some]
          by_cases e4 : s' = 47
          · subst e4
            rw [if_neg (m_bzT rfl), if_pos (by decide), g9, nI_1]; rfl
          · rw [if_pos (m_bzF e4), j5, Option.bind_some]
            by_cases e5 : s' = 48
            · subst e5
              rw [if_neg (m_bzT rfl), if_pos (by decide), g9, nI_1]; rfl
            · rw [if_pos (m_bzF e5), if_neg (show ¬ ¬ (-1 : Int32) = -1 from fun y => y rfl), if_neg (show ¬ 44 ≤ s' by omega)]
theorem m_single (hF : m_TF tp mt z n tk tg ts tl tv kn mf mm) {rSi rT rV rS : m_TyC} {rSi' rT' rV' rS' : m_TyR} (hq : m_PP mt kn mf mm n tk tg tv hn V0 W Z H dp (f_X7_readSum rV rS) (f_X15_isSum rV' rS')) (hV : dp < 8 → m_PP mt kn mf mm n tk tg tv hn V0 W Z H (dp + 1) rSi rSi') (hS : dp < 8 → m_PP mt kn mf mm n tk tg tv hn V0 W Z H (dp + 1) rT rT') (hdp : dp ≤ 8) : m_PP mt kn mf mm n tk tg tv hn V0 W Z H dp (f_X7_readSingle rSi rT rV rS) (f_X15_isSingle rSi' rT' rV' rS') := by
  refine ⟨fun qn qu rd qd x h => m_csE hq.1 h, fun k i0 a0 u t X Y h h10 => ?_⟩
  have h1 := h.1
  have h3 := h.2.1
  have h9 := h.2.2.1
  have n400 : n ≤ 400 := hF.2.2.1
  obtain ⟨s, s1, s2, s3, -, -, -⟩ := m_sg hF h1
  by_cases c1 : s = 29
  · subst c1; exact m_sin29 hF hV h hdp h10 s2
  · by_cases c2 : s = 36
    · subst c2; exact m_sin36 hF hS h hdp h10 s2
    · by_cases c3 : s = 27
      · subst c3; exact m_sin27 hF h h10 s2
      · by_cases c4 : s = 28
        · subst c4; exact m_sin28 hF h h10 s2
        · obtain ⟨b1, b2⟩ := m_signP hF h3 (m_PS_n1 h) h1 s2
          obtain ⟨X7, ok7, Y7, e1, e2, e3, e4⟩ := hq.2 _ _ _ _ _ _ _ h h10
          rw [m_csF b1 b2 c1 c2 c3 c4, e1, Option.bind_some]
          rcases e4 with ⟨rfl, e4⟩ | ⟨rfl, t7, e5, e6, e7⟩
          · rw [m_isg (t7 := 0) (s' := 0) h9 (by omega) s1 s3 c1 c2 c3 c4 e2 (fun y => absurd y (by decide)), if_neg (by decide), m_signE e4.1, Option.bind_some, m_e49 (by decide), Option.bind_some, m_rel (by decide), Option.bind_some, if_pos (m_bzF (by decide)), m_failE e4.1]
            exact ⟨_, _, _, rfl, rfl, e3, Or.inl ⟨rfl, e4⟩⟩
          · have n7 := m_PS_n1 e6
            obtain ⟨q, r1, r2, r3, -, -, -⟩ := m_sg hF e6.1
            obtain ⟨p1, p2⟩ := m_signP hF e6.2.1 n7 e6.1 r2
            have h67 := e6.1
            rw [m_isg h9 (by omega) s1 s3 c1 c2 c3 c4 e2 (fun _ => ⟨e6.2.2.1, by omega, r1, r3⟩), if_pos rfl, p1, Option.bind_some, m_e49 p2, Option.bind_some, m_rel p2, Option.bind_some]
            by_cases e : 44 ≤ q
            · have ht7 := m_lt hF e6.1 r2 (by omega)
              have hb : m_bin q (m_rw q) := by
                unfold m_bin
                rcases (show q = 44 ∨ q = 45 ∨ q = 46 ∨ q = 47 ∨ q = 48 by omega) with e | e | e | e | e <;> rw [e] <;> decide
              have adv := m_adv n400 e6 ht7 (md' := q_up Y7.1 9 (nI (t7 + 1))) m_up_s
              obtain ⟨X9, ok9, Y9, g1, g2, g3, g4⟩ := hq.2 _ _ _ _ _ _ _ adv (show q_up Y7.1 9 (nI (t7 + 1)) 10 = _ from (m_up_n (by decide)).trans e7)
              dsimp only at g1 g2
              rw [if_neg (m_bzT e), if_pos e, e6.2.1, nI_1, g1, g2, Option.bind_some, Option.bind_some]
              rcases g4 with ⟨rfl, g4⟩ | ⟨rfl, t9, g5, g6, g7⟩
              · obtain ⟨q1, q2, q3, q4, q5⟩ := m_addT (qn := X9.1) (qu := X9.2.1) (qd := X9.2.2.2) (d := q) (v := 0) p2
                rw [q4, Option.bind_some, if_neg (show ¬ ¬ q_bz false = 0 from fun y => y rfl)]
                exact ⟨_, _, _, rfl, rfl, m_Fr_t e3 (m_Fr_t m_Fr9 (m_Fr_t g3 ⟨q5, fun _ _ _ => rfl, fun _ _ _ => rfl⟩)), Or.inl ⟨rfl, m_Bad_md g4 rfl⟩⟩
              · obtain ⟨qn', qu', qd', mp', pc', o1, o2, o3, o4⟩ := m_opP (d := q) (w := m_rw q) (v := 0) (u' := u + 1) n400 g6 p2 (fun N pc cs hpc => m_O2 hb hpc)
                rw [o1, Option.bind_some, if_pos (show ¬ q_bz true = 0 by decide), o2, Option.bind_some]
                exact ⟨_, _, _, rfl, rfl, m_Fr_t e3 (m_Fr_t m_Fr9 (m_Fr_t g3 o4)), Or.inr ⟨rfl, t9, by omega, o3, g7⟩⟩
            · rw [if_pos (m_bzF e), if_neg e, m_failP n7]
              exact ⟨_, _, _, rfl, rfl, m_Fr_t e3 ⟨fun _ _ => rfl, fun _ _ _ => rfl, fun _ _ _ => rfl⟩, Or.inl ⟨rfl, m_bad e6.2.1 e6.2.2.1 e6.1⟩⟩
end
