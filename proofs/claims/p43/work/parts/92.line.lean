/-! MATH: inside a line, on both sides -/
def m_Bd (n : Nat) (rd md : m_Rr) : Prop := rd 4 = 1 ∧ ∃ t, t ≤ n ∧ rd 5 = nI t ∧ md 9 = nI t
/-- in a line, t tokens behind -/
def m_LM (mt kn mf mm : m_Rr) (n : Nat) (tg : Nat → Option Nat) (tv hn : m_Rr) (V0 : m_V) (W : m_Rr × m_Rr × m_Rr × m_Rr × m_Rr) (H t : Nat) (qn rd md mr mp pc pw : m_Rr) (oc cs op : Nat) (Q : m_Rr → Prop) : Prop :=
  t ≤ n ∧ rd 3 = nI t ∧ md 9 = nI t ∧ md 10 = nI 0 ∧ (∀ i, t ≤ i → i ≤ n → mr i = 0) ∧ H ≤ 6 ∧ qn 3 = nI H ∧ qn 5 = nI oc ∧ oc + 2 ≤ t ∧ mp 14 = nI cs ∧ cs + 4 ≤ 2 * t ∧ mp 16 = nI op ∧ op + 2 ≤ t ∧ m_St mt kn mf mm tg tv hn V0 W H rd mr pc pw op cs t Q
section
variable {tp mt tk ts tl tv kn mf mm hn : m_Rr} {z n : Nat} {tg : Nat → Option Nat} {V0 : m_V} {W : m_Rr × m_Rr × m_Rr × m_Rr × m_Rr} {H t : Nat} {qn qu rd md mr mp pc pw : m_Rr} {qd : Nat → Option Nat} {oc cs op : Nat} {Q : m_Rr → Prop}
theorem m_St_0 (hn4 : n ≤ 400) (h : m_St mt kn mf mm tg tv hn V0 W H rd mr pc pw op cs t Q) (ht : t < n) (hr : mr t = 0) {rd' : m_Rr} (h4 : rd' 4 = rd 4) (h5 : rd' 5 = rd 5) : m_St mt kn mf mm tg tv hn V0 W H rd' mr pc pw op cs (t + 1) Q := by
  unfold m_St
  rw [h4, h5]
  rcases h with ⟨b1, b2, j, V, b3, b4, b5⟩ | ⟨b1, ve, vpc, b3, b4, b5, b6⟩
  · exact Or.inl ⟨b1, b2, j, V, m_p2_err b3 b1, b4, by omega⟩
  · refine Or.inr ⟨b1, ve, vpc, m_p2_ok b3 (m_eo_0 (by omega) hr), ⟨b4.1, ?_, ?_⟩, ⟨fun o ho => ?_, b5.2⟩, b6⟩
    · rw [m_hl_s, if_neg (by rw [hr]; decide)]; exact b4.2.1
    · rw [m_hl_s, if_neg (by rw [hr]; decide)]; exact b4.2.2
    · obtain ⟨j, x, x1, x2, x3, x4, x5⟩ := b5.1 o ho
      exact ⟨j, x, x1, x2, x3, by omega, x5⟩
/-- a word that must stand there -/
theorem m_LM_take (hF : m_TF tp mt z n tk tg ts tl tv kn mf mm) (h : m_LM mt kn mf mm n tg tv hn V0 W H t qn rd md mr mp pc pw oc cs op Q) {x : Nat} {c : Int32} (hx : x < 49) (hx2 : 2 ≤ x) (hc : c = m_kd x) :
    ∃ ok rd' md', f_X7_take rd tk tg x = some (ok, rd') ∧ f_X15_eat md kn c = some (ok, md') ∧ ((ok = false ∧ m_Bd n rd' md') ∨ (ok = true ∧ m_LM mt kn mf mm n tg tv hn V0 W H (t + 1) qn rd' md' mr mp pc pw oc cs op Q)) := by
  have n400 : n ≤ 400 := hF.2.2.1
  obtain ⟨h1, h3, h9, h10, h0, hH, hq3, hq5, a1, a2, a3, a4, a5, hS⟩ := h
  have hn1 := m_St_n1 hS
  obtain ⟨s, s1, s2, s3, -, -, -⟩ := m_sg hF h1
  rw [hc, m_takeP hF h3 hn1 h1 s2 hx, m_eatP h9 (by omega) s1 s3 hx]
  by_cases e : s = x
  · subst e
    have ht := m_lt hF h1 s2 hx2
    rw [if_pos rfl, if_pos rfl]
    exact ⟨_, _, _, rfl, rfl, Or.inr ⟨rfl, by omega, m_up_s, m_up_s, (m_up_n (by decide)).trans h10, fun i i1 i2 => h0 i (by omega) i2, hH, hq3, hq5, by omega, a2, by omega, a4, by omega, m_St_0 n400 hS ht (h0 t (Nat.le_refl _) h1) (m_up_n (by decide)) (m_up_n (by decide))⟩⟩
  · rw [if_neg e, if_neg e]
    exact ⟨_, _, _, rfl, rfl, Or.inl ⟨rfl, m_fl_4, t, h1, m_fl_5.trans h3, h9⟩⟩
/-- a sum or a test -/
theorem m_LM_ex (hF : m_TF tp mt z n tk tg ts tl tv kn mf mm) (h : m_LM mt kn mf mm n tg tv hn V0 W H t qn rd md mr mp pc pw oc cs op Q) {fC : m_TyC} {fR : m_TyR} (hP : ∀ Z, m_PP mt kn mf mm n tk tg tv hn V0 W Z H 0 fC fR) :
    ∃ qn' qu' rd' qd' ok md' mr' mp' pc' pw', fC qn qu rd hn tk tv qd tg 0 = some (qn', qu', rd', qd') ∧ fR md mt kn mf mm mr mp pc pw = some (ok, md', mr', mp', pc', pw') ∧ (∀ j, j ≠ 5 → qn' j = qn j) ∧ (∀ j, j ≠ 14 → j ≠ 16 → mp' j = mp j) ∧ ((ok = false ∧ m_Bd n rd' md') ∨
      (ok = true ∧ ∃ oc' cs' op' t', t < t' ∧ oc ≤ oc' ∧ cs ≤ cs' ∧ m_LM mt kn mf mm n tg tv hn V0 W H t' qn' rd' md' mr' mp' pc' pw' oc' cs' op' (fun v => ∃ v0, Q v0 ∧ (∀ j, j < cs → v j = v0 j) ∧ (∀ i, i < oc → qd' i = qd i ∧ qu' i = qu i) ∧ m_Cd (m_N H v) qd' qu' v (oc' - oc) oc cs 0 cs' 1))) := by
  obtain ⟨h1, h3, h9, h10, h0, hH, hq3, hq5, a1, a2, a3, a4, a5, hS⟩ := h
  have st : ∃ Z : m_Z, (Z.2.2.2 → Z.1 = qd ∧ Z.2.1 = qu ∧ Q Z.2.2.1) ∧ m_PS mt kn mf mm n tg tv hn V0 W Z H 0 oc cs 0 t (qn, qu, rd, qd) (md, mr, mp, pc, pw) := by
    rcases hS with b | ⟨b1, ve, vpc, b3, b4, b5, b6⟩
    · exact ⟨(qd, qu, qn, False), fun f => f.elim, h1, h3, h9, h0, hH, hq3, oc, cs, op, hq5, a1, a2, a3, a4, a5, Nat.le_refl _, Nat.le_refl _, Or.inl b⟩
    · refine ⟨(qd, qu, vpc, Q vpc), fun f => ⟨rfl, rfl, f⟩, h1, h3, h9, h0, hH, hq3, oc, cs, op, hq5, a1, a2, a3, a4, a5, Nat.le_refl _, Nat.le_refl _, Or.inr ⟨b1, ve, vpc, b3, b4, b5, ?_, fun _ _ => ⟨rfl, rfl⟩, fun _ _ => rfl, b6⟩⟩
      rw [Nat.sub_self]; exact ⟨rfl, rfl⟩
  obtain ⟨Z, hZ, hPS⟩ := st
  obtain ⟨⟨qn', qu', rd', qd'⟩, ok, ⟨md', mr', mp', pc', pw'⟩, e1, e2, e3, e4⟩ := (hP Z).2 _ _ _ _ _ _ _ hPS h10
  refine ⟨qn', qu', rd', qd', ok, md', mr', mp', pc', pw', e1, e2, e3.1, e3.2.2, ?_⟩
  rcases e4 with ⟨e4, e5⟩ | ⟨e4, t', e5, e6, e7⟩
  · exact Or.inl ⟨e4, e5⟩
  · obtain ⟨g1, g3, g9, g0, -, gq, oc', cs', op', c1, c2, c3, c4, c5, c6, c7, c8, gS⟩ := m_PS_St e6
    refine Or.inr ⟨e4, oc', cs', op', t', e5, c7, c8, g1, g3, g9, e7, g0, hH, gq, c1, c2, c3, c4, c5, c6, m_St_m gS (fun v q => ?_)⟩
    obtain ⟨q1, q2, q3, q4⟩ := q
    obtain ⟨z1, z2, z3⟩ := hZ q4
    rw [z1, z2] at q2
    exact ⟨_, z3, q3, q2, q1⟩
end
