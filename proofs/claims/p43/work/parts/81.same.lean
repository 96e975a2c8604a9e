/-! MATH: an order of two hooks: SAME -/
section
variable {tp mt tk ts tl tv kn mf mm hn : m_Rr} {z n : Nat} {tg : Nat → Option Nat} {V0 : m_V} {W : m_Rr × m_Rr × m_Rr × m_Rr × m_Rr} {Z : m_Z} {H k i0 a0 u t : Nat} {X : m_PX} {Y : m_PY}
theorem m_h6 : ∀ h, h < 6 → ∀ g, g < 6 → nI h * 6 + nI g = nI (h * 6 + g) := by decide
theorem m_hookF (hF : m_TF tp mt z n tk tg ts tl tv kn mf mm) {qn rd : m_Rr} (h2 : rd 3 = nI t) (hn1 : rd 4 ≠ 1) (h1 : t ≤ n) {s : Nat} (s2 : tg t = some s) (e : s ≠ 3) : f_X7_readHook qn rd hn tk tv tg = some (0, m_fl rd) := by
  obtain ⟨b1, b2⟩ := m_signP hF h2 hn1 h1 s2
  unfold f_X7_readHook
  rw [b1, Option.bind_some, m_e49 b2, Option.bind_some, if_neg e, m_failP hn1]; rfl
theorem m_sameP (hF : m_TF tp mt z n tk tg ts tl tv kn mf mm) (h : m_PS mt kn mf mm n tg tv hn V0 W Z H (k + 1) i0 a0 u t X Y) :
    ∃ X' mp1 pc1 ok1 Y1, f_X7_readSame X.1 X.2.1 X.2.2.1 hn tk tv X.2.2.2 tg = some X' ∧ f_X15_put Y.2.2.1 Y.2.2.2.1 23 = some (mp1, pc1) ∧ f_X15_isName Y.1 kn Y.2.1 mp1 pc1 Y.2.2.2.2 5 = some (ok1, Y1) ∧
    ((ok1 = false ∧ m_Fr X Y X' Y1 ∧ m_Bad n X' Y1) ∨ (ok1 = true ∧ ∃ ok Y', f_X15_isName Y1.1 kn Y1.2.1 Y1.2.2.1 Y1.2.2.2.1 Y1.2.2.2.2 5 = some (ok, Y') ∧ m_Fr X Y X' Y' ∧ ((ok = false ∧ m_Bad n X' Y') ∨ (ok = true ∧ m_PS mt kn mf mm n tg tv hn V0 W Z H k i0 a0 (u + 1) (t + 2) X' Y' ∧ Y'.1 10 = Y.1 10)))) := by
  have n400 : n ≤ 400 := hF.2.2.1
  obtain ⟨h1, h2, h3, h4, h5, h6, oc, cs, op, a1, a2, a3, a4, a5, a6, a7, a8, h7⟩ := m_PS_St h
  have hn1 := m_St_n1 h7
  obtain ⟨s, s1, s2, s3, -, s4, s5⟩ := m_sg hF h1
  have e16 : q_up Y.2.2.1 14 (nI (cs + 1)) 16 = nI op := (m_up_n (by decide)).trans a5
  have isn := m_isNameP (mr := Y.2.1) (pc := q_up Y.2.2.2.1 cs 23) (pw := Y.2.2.2.2) h3 (show t < 401 by omega) s1 s3 e16 (by omega) (m_up_s (j := 14)) (show cs + 1 < 800 by omega)
  have hput : f_X15_put Y.2.2.1 Y.2.2.2.1 23 = some (q_up Y.2.2.1 14 (nI (cs + 1)), q_up Y.2.2.2.1 cs 23) := m_putP a3 (by omega)
  have fr3 : ∀ j, j ≠ 14 → j ≠ 16 → q_up (q_up (q_up Y.2.2.1 14 (nI (cs + 1))) 16 (nI (op + 1))) 14 (nI (cs + 1 + 1)) j = Y.2.2.1 j := fun j x1 x2 => (m_up_n x1).trans ((m_up_n x2).trans (m_up_n x1))
  have hadd : ∀ v, f_X6_addOrder X.1 X.2.1 X.2.2.2 28 v = some (q_up X.1 5 (nI (oc + 1)), q_up X.2.1 oc v, q_up X.2.2.2 oc (some 28)) := fun v => m_addP (by decide) a1 (by omega)
  by_cases e : s = 3
  · subst e
    have ht : t < n := by
      rcases Nat.lt_or_ge t n with h | h
      · exact h
      · have := s5 (by omega)
        omega
    rw [if_pos rfl] at isn
    obtain ⟨hv, rd', c1, c2, c3, c4, c5⟩ := m_St_name (V0 := V0) (W := W) (op := op) (cs := cs + 1) (pc := q_up Y.2.2.2.1 cs 23) (pw := Y.2.2.2.2) hF h2 hn1 ht s2 h5 h6 (by omega) h4
    have c6 := c5 (fun vpc => m_Ce Z H X.2.2.2 X.2.1 vpc (oc - i0) i0 a0 cs u ∧ vpc cs = 23) (fun vpc => (m_Ce Z H X.2.2.2 X.2.1 vpc (oc - i0) i0 a0 cs u ∧ vpc cs = 23) ∧ hv < H ∧ vpc (cs + 1) = nI hv) (m_St_put h7 (fun v q => ⟨m_Ce_pc q a8 (fun j q1 => m_up_n (by omega)), m_up_s⟩)) (fun v hv6 q => ⟨⟨m_Ce_pc q.1 a8 (fun j q1 => m_up_n (by omega)), (m_up_n (by omega)).trans q.2⟩, hv6, m_up_s⟩)
    obtain ⟨s', t1, t2, t3, -, -, t5⟩ := m_sg hF (show t + 1 ≤ n by omega)
    have g9 : q_up Y.1 9 (nI (t + 1)) 9 = nI (t + 1) := m_up_s
    have g14 : q_up (q_up (q_up Y.2.2.1 14 (nI (cs + 1))) 16 (nI (op + 1))) 14 (nI (cs + 1 + 1)) 14 = nI (cs + 1 + 1) := m_up_s
    have g16 : q_up (q_up (q_up Y.2.2.1 14 (nI (cs + 1))) 16 (nI (op + 1))) 14 (nI (cs + 1 + 1)) 16 = nI (op + 1) := (m_up_n (by decide)).trans m_up_s
    have isn2 := m_isNameP (mr := q_up Y.2.1 t 5) (pc := q_up (q_up Y.2.2.2.1 cs 23) (cs + 1) (nI t)) (pw := q_up Y.2.2.2.2 op (nI cs.succ)) g9 (show t + 1 < 401 by omega) t1 t3 g16 (by omega) g14 (show cs + 1 + 1 < 800 by omega)
    have fr4 : ∀ j, j ≠ 14 → j ≠ 16 → q_up (q_up (q_up (q_up (q_up Y.2.2.1 14 (nI (cs + 1))) 16 (nI (op + 1))) 14 (nI (cs + 1 + 1))) 16 (nI (op + 1 + 1))) 14 (nI (cs + 1 + 1 + 1)) j = Y.2.2.1 j := fun j x1 x2 => (m_up_n x1).trans ((m_up_n x2).trans (fr3 j x1 x2))
    by_cases e' : s' = 3
    · subst e'
      have ht' : t + 1 < n := by
        rcases Nat.lt_or_ge (t + 1) n with h | h
        · exact h
        · have := t5 (by omega)
          omega
      rw [if_pos rfl] at isn2
      obtain ⟨gv, rd2, d1, d2, d3, d4, d5⟩ := m_St_name (V0 := V0) (W := W) (op := op + 1) (cs := cs + 1 + 1) (mr := q_up Y.2.1 t 5) (pc := q_up (q_up Y.2.2.2.1 cs 23) (cs + 1) (nI t)) (pw := q_up Y.2.2.2.2 op (nI (cs + 1))) hF c3 c4 ht' t2 h5 h6 (by omega) (fun i x1 x2 => (m_up_n (by omega)).trans (h4 i (by omega) x2))
      have hsame : f_X7_readSame X.1 X.2.1 X.2.2.1 hn tk tv X.2.2.2 tg = some (q_up X.1 5 (nI (oc + 1)), q_up X.2.1 oc (nI (hv * 6 + gv)), rd2, q_up X.2.2.2 oc (some 28)) := by
        unfold f_X7_readSame
        rw [c1, Option.bind_some]
        dsimp only
        rw [d1, Option.bind_some, m_h6 hv c2 gv d2, hadd]; rfl
      refine ⟨_, _, _, _, _, hsame, hput, isn, Or.inr ⟨rfl, _, _, isn2, ⟨fun j hj => m_up_n hj, fun j x1 x2 => (m_up_n x1).trans (m_up_n x1), fr4⟩, Or.inr ⟨rfl, ?_, (show q_up (q_up Y.1 9 (nI (t + 1))) 9 (nI (t + 1 + 1)) 10 = _ from (m_up_n (by decide)).trans (m_up_n (by decide)))⟩⟩⟩
      refine ⟨by omega, d3, (show q_up (q_up Y.1 9 (nI (t + 1))) 9 (nI (t + 1 + 1)) 9 = _ from m_up_s), fun i x1 x2 => (m_up_n (show i ≠ t + 1 by omega)).trans ((m_up_n (show i ≠ t by omega)).trans (h4 i (by omega) x2)), h5, (show q_up X.1 5 (nI (oc + 1)) 3 = _ from (m_up_n (by decide)).trans h6), oc + 1, cs + 1 + 1 + 1, op + 1 + 1, (show q_up X.1 5 (nI (oc + 1)) 5 = _ from m_up_s), by omega, (show q_up (q_up (q_up (q_up (q_up Y.2.2.1 14 (nI (cs + 1))) 16 (nI (op + 1))) 14 (nI (cs + 1 + 1))) 16 (nI (op + 1 + 1))) 14 (nI (cs + 1 + 1 + 1)) 14 = _ from m_up_s), by omega, (show q_up (q_up (q_up (q_up (q_up Y.2.2.1 14 (nI (cs + 1))) 16 (nI (op + 1))) 14 (nI (cs + 1 + 1))) 16 (nI (op + 1 + 1))) 14 (nI (cs + 1 + 1 + 1)) 16 = _ from (m_up_n (by decide)).trans m_up_s), by omega, by omega, by omega, ?_⟩
      refine d5 _ _ c6 (fun v gv6 q => ?_)
      refine m_Ce_one a7 (m_Ce_pc q.1.1 a8 (fun j q1 => m_up_n (by omega))) ?_
      refine Or.inr (Or.inr (Or.inr (Or.inl ⟨rfl, rfl, rfl, ?_, hv, gv, c2, d2, rfl, ⟨q.2.1, ?_⟩, gv6, ?_⟩)))
      · rw [m_up_n (show cs ≠ cs + 1 + 1 by omega)]; exact q.1.2
      · rw [m_up_n (show cs + 1 ≠ cs + 1 + 1 by omega)]; exact q.2.2
      · exact m_up_s
    · rw [if_neg e'] at isn2
      have hsame : f_X7_readSame X.1 X.2.1 X.2.2.1 hn tk tv X.2.2.2 tg = some (q_up X.1 5 (nI (oc + 1)), q_up X.2.1 oc (nI hv * 6 + 0), m_fl rd', q_up X.2.2.2 oc (some 28)) := by
        unfold f_X7_readSame
        rw [c1, Option.bind_some]
        dsimp only
        rw [m_hookF hF c3 c4 (by omega) t2 e', Option.bind_some, hadd]; rfl
      exact ⟨_, _, _, _, _, hsame, hput, isn, Or.inr ⟨rfl, _, _, isn2, ⟨fun j hj => m_up_n hj, fun j x1 x2 => m_up_n x1, fr4⟩, Or.inl ⟨rfl, m_bad c3 g9 (by omega)⟩⟩⟩
  · rw [if_neg e] at isn
    have hsame : f_X7_readSame X.1 X.2.1 X.2.2.1 hn tk tv X.2.2.2 tg = some (q_up X.1 5 (nI (oc + 1)), q_up X.2.1 oc (0 * 6 + 0), m_fl X.2.2.1, q_up X.2.2.2 oc (some 28)) := by
      unfold f_X7_readSame
      rw [m_hookF hF h2 hn1 h1 s2 e, Option.bind_some]
      dsimp only
      rw [m_hookE m_fl_4, Option.bind_some, hadd]; rfl
    exact ⟨_, _, _, _, _, hsame, hput, isn, Or.inl ⟨rfl, ⟨fun j hj => m_up_n hj, fun j x1 x2 => rfl, fr3⟩, m_bad h2 h3 h1⟩⟩
end
