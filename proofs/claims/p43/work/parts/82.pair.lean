/-! MATH: MIN, MAX and what stands in brackets -/
theorem m_bzT {p : Prop} [Decidable p] (h : p) : ¬ q_bz (decide p) = 0 := by rw [decide_eq_true h]; decide
theorem m_bzF {p : Prop} [Decidable p] (h : ¬ p) : q_bz (decide p) = 0 := by rw [decide_eq_false h]; rfl
theorem m_dn : ∀ d, d < 8 → nI (d + 1) - 1 = nI d := by decide
/-- orders of two numbers -/
def m_bin (d : Nat) (w : Int32) : Prop := (d = 30 ∧ w = 25) ∨ (d = 31 ∧ w = 26) ∨ (d = 32 ∧ w = 27) ∨ (d = 33 ∧ w = 28) ∨ (d = 40 ∧ w = 34) ∨ (d = 41 ∧ w = 35) ∨ (d = 42 ∧ w = 36) ∨ (d = 43 ∧ w = 37) ∨ (d = 44 ∧ w = 38) ∨ (d = 45 ∧ w = 39) ∨ (d = 46 ∧ w = 42) ∨ (d = 47 ∧ w = 43) ∨ (d = 48 ∧ w = 44)
theorem m_bin_lt {d : Nat} {w : Int32} (h : m_bin d w) : d < 49 := by unfold m_bin at h; omega
theorem m_O2 {N : Nat → Nat → Prop} {pc : m_Rr} {d u cs : Nat} {v w : Int32} (h : m_bin d w) (hpc : pc cs = w) : m_O N pc d v cs (cs + 1) (u + 1 + 1) (u + 1) := by
  subst hpc
  exact Or.inr (Or.inr (Or.inr (Or.inr (Or.inr ⟨rfl, Nat.le_add_left _ _, rfl, h⟩))))
section
variable {tp mt tk ts tl tv kn mf mm hn : m_Rr} {z n : Nat} {tg : Nat → Option Nat} {V0 : m_V} {W : m_Rr × m_Rr × m_Rr × m_Rr × m_Rr} {Z : m_Z} {H k i0 a0 u t dp : Nat} {X : m_PX} {Y : m_PY}
theorem m_isSgP {md : m_Rr} (h : md 9 = nI t) (ht : t < 401) {s : Nat} (hs : s < 49) (hk : kn t = m_kd s) {x : Nat} {c : Int32} (hx : x < 49) (hc : 50 + c = m_kd x) : f_X15_isSign md kn c = some (decide (s = x)) := by
  have := m_isP h ht hs hk hx
  rw [← hc] at this
  exact this
theorem m_eatSgP {md : m_Rr} (h : md 9 = nI t) (ht : t < 401) {s : Nat} (hs : s < 49) (hk : kn t = m_kd s) {x : Nat} {c : Int32} (hx : x < 49) (hc : 50 + c = m_kd x) : f_X15_eatSign md kn c = some (if s = x then (true, q_up md 9 (nI (t + 1))) else (false, md)) := by
  unfold f_X15_eatSign
  rw [hc, m_eatP h ht hs hk hx]; rfl
/-- the model's other numbers -/
theorem m_PS_md (h : m_PS mt kn mf mm n tg tv hn V0 W Z H k i0 a0 u t X Y) {md' : m_Rr} (h9 : md' 9 = Y.1 9) : m_PS mt kn mf mm n tg tv hn V0 W Z H k i0 a0 u t X (md', Y.2) := by
  obtain ⟨h1, h2, h3, h4⟩ := h
  exact ⟨h1, h2, h9.trans h3, h4⟩
theorem m_Bad_md (h : m_Bad n X Y) {qn qu : m_Rr} {qd : Nat → Option Nat} {Y' : m_PY} (h9 : Y'.1 9 = Y.1 9) : m_Bad n (qn, qu, X.2.2.1, qd) Y' := by
  obtain ⟨h1, t, h2, h3, h4⟩ := h
  exact ⟨h1, t, h2, h3, h9.trans h4⟩
theorem m_lt (hF : m_TF tp mt z n tk tg ts tl tv kn mf mm) (h1 : t ≤ n) {s : Nat} (s2 : tg t = some s) (hs : 2 ≤ s) : t < n := by
  obtain ⟨s', s1, s2', s3, -, s4, s5⟩ := m_sg hF h1
  obtain rfl : s' = s := Option.some.inj (s2'.symm.trans s2)
  rcases Nat.lt_or_ge t n with h | h
  · exact h
  · have := s5 (by omega)
    omega
/-- one level deeper, a token behind -/
theorem m_deepP (hF : m_TF tp mt z n tk tg ts tl tv kn mf mm) (h : m_PS mt kn mf mm n tg tv hn V0 W Z H k i0 a0 u t X Y) (ht : t < n) (hdp : dp ≤ 8) (h10 : Y.1 10 = nI dp) : (dp = 8 ∧ f_X7_takeDeeper X.2.2.1 (nI dp) = some (false, m_fl X.2.2.1) ∧ f_X15_isDeeper Y.1 = some (false, Y.1)) ∨
    (dp < 8 ∧ ∃ rd' md', f_X7_takeDeeper X.2.2.1 (nI dp) = some (true, rd') ∧ f_X15_isDeeper Y.1 = some (true, md') ∧ md' 10 = nI (dp + 1) ∧ m_PS mt kn mf mm n tg tv hn V0 W Z H (k + 1) i0 a0 u (t + 1) (X.1, X.2.1, rd', X.2.2.2) (md', Y.2) ∧ m_Fr X Y (X.1, X.2.1, rd', X.2.2.2) (md', Y.2)) := by
  have n400 : n ≤ 400 := hF.2.2.1
  have hn1 := m_PS_n1 h
  have h3 := h.2.1
  have h9 := h.2.2.1
  unfold f_X7_takeDeeper f_X15_isDeeper
  rcases Nat.lt_or_ge dp 8 with h8 | h8
  · refine Or.inr ⟨h8, q_up X.2.2.1 3 (nI (t + 1)), q_up (q_up Y.1 10 (nI (dp + 1))) 9 (nI (t + 1)), ?_, ?_, ?_, m_adv n400 h ht m_up_s, ⟨fun _ _ => rfl, fun j x1 x2 => (m_up_n x1).trans (m_up_n x2), fun _ _ _ => rfl⟩⟩
    · rw [if_pos (show nI dp < (8 : Int32) from nI_lt (b := 8) h8 (by decide)), h3, nI_1]
    · rw [h10, if_pos (show ¬ nI dp = (8 : Int32) from fun e => absurd ((nI_eq (b := 8) (by omega) (by decide)).mp e) (by omega)), nI_1, m_up_n (by decide), h9, nI_1]
    · rw [m_up_n (by decide), m_up_s]
  · obtain rfl : dp = 8 := by omega
    refine Or.inl ⟨rfl, ?_, ?_⟩
    · rw [if_neg (by decide), m_failP hn1]; rfl
    · rw [h10, if_neg (fun z => z rfl)]
/-- MIN, MAX: behind the name -/
theorem m_pairP (hF : m_TF tp mt z n tk tg ts tl tv kn mf mm) {rS : m_TyC} {rS' : m_TyR} (hS : dp < 8 → m_PP mt kn mf mm n tk tg tv hn V0 W Z H (dp + 1) rS rS') (h : m_PS mt kn mf mm n tg tv hn V0 W Z H (k + 1) i0 a0 u t X Y) (hdp : dp ≤ 8) (h10 : Y.1 10 = nI dp) {d : Nat} {w : Int32} (hb : m_bin d w) :
    ∃ X' ok Y', f_X7_readPair rS X.1 X.2.1 X.2.2.1 hn tk tv X.2.2.2 tg d (nI dp) = some X' ∧ f_X15_isInside rS' Y.1 mt kn mf mm Y.2.1 Y.2.2.1 Y.2.2.2.1 Y.2.2.2.2 w true = some (ok, Y') ∧ m_Out mt kn mf mm n tg tv hn V0 W Z H k i0 a0 (u + 1) t dp X Y ok X' Y' := by
  have n400 : n ≤ 400 := hF.2.2.1
  have hd49 : d < 49 := m_bin_lt hb
  have hn1 := m_PS_n1 h
  have h1 := h.1
  have h3 := h.2.1
  have h9 := h.2.2.1
  obtain ⟨s, s1, s2, s3, -, -, -⟩ := m_sg hF h1
  obtain ⟨b1, b2⟩ := m_signP hF h3 hn1 h1 s2
  have iS := m_isSgP (x := 34) (c := 40) h9 (by omega) s1 s3 (by decide) (by decide)
  unfold f_X7_readPair f_X15_isInside
  rw [m_e49 hd49, Option.bind_some, b1, Option.bind_some, m_e49 b2, Option.bind_some, iS, Option.bind_some]
  by_cases e : s = 34
  · subst e
    have ht := m_lt hF h1 s2 (by decide)
    rw [if_pos rfl, if_neg (m_bzT rfl)]
    rcases m_deepP hF h ht hdp h10 with ⟨e8, d1, d2⟩ | ⟨h8, rd1, md1, d1, d2, d3, d4, d5⟩
    · rw [d1, d2, Option.bind_some, Option.bind_some]
      exact ⟨_, _, _, rfl, rfl, ⟨fun _ _ => rfl, fun _ _ _ => rfl, fun _ _ _ => rfl⟩, Or.inl ⟨rfl, m_bad h3 h9 h1⟩⟩
    · obtain ⟨hE, hL⟩ := hS h8
      rw [d1, d2, Option.bind_some, Option.bind_some, if_neg (show ¬ q_bz true = 0 by decide), if_neg (show ¬ q_bz true = 0 by decide), show nI dp + 1 = nI (dp + 1) from nI_1 _]
      obtain ⟨X7, ok7, Y7, e1, e2, e3, e4⟩ := hL _ _ _ _ _ _ _ d4 d3
      dsimp only at e1 e2
      dsimp only
      rw [e1, e2, Option.bind_some, Option.bind_some]
      rcases e4 with ⟨rfl, e4⟩ | ⟨rfl, t7, e5, e6, e7⟩
      · obtain ⟨q1, q2, q3, q4, q5⟩ := m_addT (qn := X7.1) (qu := X7.2.1) (qd := X7.2.2.2) (d := d) (v := 0) hd49
        rw [m_takeE e4.1 (by decide) (by decide), Option.bind_some]
        dsimp only
        rw [hE _ _ _ _ _ e4.1, Option.bind_some]
        dsimp only
        rw [m_takeE e4.1 (by decide) (by decide), Option.bind_some, q4, Option.bind_some, if_pos (show q_bz false = 0 from rfl)]
        exact ⟨_, _, _, rfl, rfl, m_Fr_t d5 (m_Fr_t e3 ⟨q5, fun _ _ _ => rfl, fun _ _ _ => rfl⟩), Or.inl ⟨rfl, m_Bad_md e4 rfl⟩⟩
      · have n7 := m_PS_n1 e6
        obtain ⟨s', t1, t2, t3, -, -, -⟩ := m_sg hF e6.1
        rw [if_neg (show ¬ q_bz true = 0 by decide), if_neg (show ¬ q_bz true = 0 by decide), m_takeP hF e6.2.1 n7 e6.1 t2 (by decide), m_eatSgP (x := 39) e6.2.2.1 (by have := e6.1; omega) t1 t3 (by decide) (by decide), Option.bind_some, Option.bind_some]
        by_cases e' : s' = 39
        · subst e'
          rw [if_pos rfl, if_pos rfl]
          dsimp only
          rw [if_neg (show ¬ q_bz true = 0 by decide)]
          have ht7 := m_lt hF e6.1 t2 (by decide)
          have adv := m_adv n400 e6 ht7 (md' := q_up Y7.1 9 (nI (t7 + 1))) m_up_s
          obtain ⟨X9, ok9, Y9, g1, g2, g3, g4⟩ := hL _ _ _ _ _ _ _ adv (show q_up Y7.1 9 (nI (t7 + 1)) 10 = _ from (m_up_n (by decide)).trans e7)
          dsimp only at g1 g2
          rw [g1, g2, Option.bind_some, Option.bind_some]
          have fr7 : m_Fr X7 Y7 (X7.1, X7.2.1, q_up X7.2.2.1 3 (nI (t7 + 1)), X7.2.2.2) (q_up Y7.1 9 (nI (t7 + 1)), Y7.2) := ⟨fun _ _ => rfl, fun j x1 x2 => m_up_n x1, fun _ _ _ => rfl⟩
          rcases g4 with ⟨rfl, g4⟩ | ⟨rfl, t9, g5, g6, g7⟩
          · obtain ⟨q1, q2, q3, q4, q5⟩ := m_addT (qn := X9.1) (qu := X9.2.1) (qd := X9.2.2.2) (d := d) (v := 0) hd49
            rw [m_takeE g4.1 (by decide) (by decide), Option.bind_some, q4, Option.bind_some, if_neg (fun z => z (show q_bz false = 0 from rfl))]
            exact ⟨_, _, _, rfl, rfl, m_Fr_t d5 (m_Fr_t e3 (m_Fr_t fr7 (m_Fr_t g3 ⟨q5, fun _ _ _ => rfl, fun _ _ _ => rfl⟩))), Or.inl ⟨rfl, m_Bad_md g4 rfl⟩⟩
          · have n9 := m_PS_n1 g6
            obtain ⟨s', r1, r2, r3, -, -, -⟩ := m_sg hF g6.1
            obtain ⟨qn', qu', qd', mp', pc', o1, o2, o3, o4⟩ := m_opP (d := d) (w := w) (v := 0) (u' := u + 1) n400 g6 hd49 (fun N pc cs hpc => m_O2 hb hpc)
            have md9 : q_up Y9.1 10 (Y9.1 10 - 1) 9 = nI t9 := (m_up_n (by decide)).trans g6.2.2.1
            have md10 : q_up Y9.1 10 (Y9.1 10 - 1) 10 = nI dp := by
              rw [m_up_s, g7, m_dn dp h8]
            rw [if_pos (show ¬ q_bz true = 0 by decide), if_neg (show ¬ q_bz true = 0 by decide), o1, o2, m_takeP hF g6.2.1 n9 g6.1 r2 (by decide), Option.bind_some, Option.bind_some, Option.bind_some, m_eatSgP (x := 35) md9 (by have := g6.1; omega) r1 r3 (by decide) (by decide), Option.bind_some]
            by_cases e'' : s' = 35
            · subst e''
              have ht9 := m_lt hF g6.1 r2 (by decide)
              rw [if_pos rfl, if_pos rfl]
              exact ⟨_, _, _, rfl, rfl, m_Fr_t d5 (m_Fr_t e3 (m_Fr_t fr7 (m_Fr_t g3 (m_Fr_t o4 ⟨fun _ _ => rfl, fun j x1 x2 => (m_up_n x1).trans (m_up_n x2), fun _ _ _ => rfl⟩)))), Or.inr ⟨rfl, t9 + 1, by omega, m_PS_k (m_adv n400 o3 ht9 (md' := q_up (q_up Y9.1 10 (Y9.1 10 - 1)) 9 (nI (t9 + 1))) m_up_s) (by omega), (show q_up (q_up Y9.1 10 (Y9.1 10 - 1)) 9 (nI (t9 + 1)) 10 = _ from (m_up_n (by decide)).trans md10)⟩⟩
            · rw [if_neg e'', if_neg e'']
              exact ⟨_, _, _, rfl, rfl, m_Fr_t d5 (m_Fr_t e3 (m_Fr_t fr7 (m_Fr_t g3 (m_Fr_t o4 ⟨fun _ _ => rfl, fun j x1 x2 => m_up_n x2, fun _ _ _ => rfl⟩)))), Or.inl ⟨rfl, m_bad g6.2.1 md9 g6.1⟩⟩
        · obtain ⟨q1, q2, q3, q4, q5⟩ := m_addT (qn := X7.1) (qu := X7.2.1) (qd := X7.2.2.2) (d := d) (v := 0) hd49
          rw [if_neg e', if_neg e']
          dsimp only
          rw [hE _ _ _ _ _ m_fl_4, Option.bind_some]
          dsimp only
          rw [m_takeE m_fl_4 (by decide) (by decide), Option.bind_some, q4, Option.bind_some, if_pos (show q_bz false = 0 from rfl)]
          exact ⟨_, _, _, rfl, rfl, m_Fr_t d5 (m_Fr_t e3 ⟨q5, fun _ _ _ => rfl, fun _ _ _ => rfl⟩), Or.inl ⟨rfl, m_bad e6.2.1 e6.2.2.1 e6.1⟩⟩
  · rw [if_neg e, if_pos (m_bzF e), m_failP hn1, Option.bind_some]
    exact ⟨_, _, _, rfl, rfl, ⟨fun _ _ => rfl, fun _ _ _ => rfl, fun _ _ _ => rfl⟩, Or.inl ⟨rfl, m_bad h3 h9 h1⟩⟩
end
