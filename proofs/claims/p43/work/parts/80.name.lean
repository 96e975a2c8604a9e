/-! MATH: sums and tests: what comes out; orders with names -/
def m_Out (mt kn mf mm : m_Rr) (n : Nat) (tg : Nat → Option Nat) (tv hn : m_Rr) (V0 : m_V) (W : m_Rr × m_Rr × m_Rr × m_Rr × m_Rr) (Z : m_Z) (H k i0 a0 u t dp : Nat) (X : m_PX) (Y : m_PY) (ok : Bool) (X' : m_PX) (Y' : m_PY) : Prop :=
  m_Fr X Y X' Y' ∧ ((ok = false ∧ m_Bad n X' Y') ∨ (ok = true ∧ ∃ t', t < t' ∧ m_PS mt kn mf mm n tg tv hn V0 W Z H k i0 a0 u t' X' Y' ∧ Y'.1 10 = nI dp))
abbrev m_TyC : Type := m_Rr → m_Rr → m_Rr → m_Rr → m_Rr → m_Rr → (Nat → Option Nat) → (Nat → Option Nat) → Int32 → Option m_PX
abbrev m_TyR : Type := m_Rr → m_Rr → m_Rr → m_Rr → m_Rr → m_Rr → m_Rr → m_Rr → m_Rr → Option (Bool × m_PY)
/-- two readers that go along -/
def m_PP (mt kn mf mm : m_Rr) (n : Nat) (tk : m_Rr) (tg : Nat → Option Nat) (tv hn : m_Rr) (V0 : m_V) (W : m_Rr × m_Rr × m_Rr × m_Rr × m_Rr) (Z : m_Z) (H dp : Nat) (fC : m_TyC) (fR : m_TyR) : Prop :=
  (∀ qn qu rd qd x, rd 4 = 1 → fC qn qu rd hn tk tv qd tg x = some (qn, qu, rd, qd)) ∧
  ∀ k i0 a0 u t X Y, m_PS mt kn mf mm n tg tv hn V0 W Z H k i0 a0 u t X Y → Y.1 10 = nI dp → ∃ X' ok Y', fC X.1 X.2.1 X.2.2.1 hn tk tv X.2.2.2 tg (nI dp) = some X' ∧ fR Y.1 mt kn mf mm Y.2.1 Y.2.2.1 Y.2.2.2.1 Y.2.2.2.2 = some (ok, Y') ∧ m_Out mt kn mf mm n tg tv hn V0 W Z H k i0 a0 (u + 1) t dp X Y ok X' Y'
section
variable {tp mt tk ts tl tv kn mf mm hn : m_Rr} {z n : Nat} {tg : Nat → Option Nat} {V0 : m_V} {W : m_Rr × m_Rr × m_Rr × m_Rr × m_Rr} {Z : m_Z} {H k i0 a0 u t : Nat} {X : m_PX} {Y : m_PY}
theorem m_isNameP {md mr mp pc pw : m_Rr} (h : md 9 = nI t) (ht : t < 401) {s op cs : Nat} (hs : s < 49) (hk : kn t = m_kd s) (h16 : mp 16 = nI op) (ho : op < 400) (h14 : mp 14 = nI cs) (hc : cs < 800) : f_X15_isName md kn mr mp pc pw 5 = some (if s = 3 then (true, q_up md 9 (nI (t + 1)), q_up mr t 5, q_up (q_up mp 16 (nI (op + 1))) 14 (nI (cs + 1)), q_up pc cs (nI t), q_up pw op (nI cs)) else (false, md, q_up mr t 5, q_up (q_up mp 16 (nI (op + 1))) 14 (nI (cs + 1)), q_up pc cs (nI t), q_up pw op (nI cs))) := by
  have e14 : q_up mp 16 (nI (op + 1)) 14 = nI cs := (m_up_n (by decide)).trans h14
  unfold f_X15_isName f_X15_eatAs
  rw [h16, q_ix_nI ho (by decide), Option.bind_some, nI_1, m_putP e14 hc, Option.bind_some, h, q_ix_nI ht (by decide), Option.bind_some, show (40 : Int32) = m_kd 3 from rfl, m_eatP h ht hs hk (by decide), h14]
  by_cases e : s = 3
  · rw [if_pos e, if_pos e]; rfl
  · rw [if_neg e, if_neg e]; rfl
/-- the parts of a state of reading -/
theorem m_PS_St (h : m_PS mt kn mf mm n tg tv hn V0 W Z H k i0 a0 u t X Y) : t ≤ n ∧ X.2.2.1 3 = nI t ∧ Y.1 9 = nI t ∧ (∀ i, t ≤ i → i ≤ n → Y.2.1 i = 0) ∧ H ≤ 6 ∧ X.1 3 = nI H ∧ ∃ oc cs op, X.1 5 = nI oc ∧ oc + 2 + k ≤ t ∧ Y.2.2.1 14 = nI cs ∧ cs + 4 + 2 * k ≤ 2 * t ∧ Y.2.2.1 16 = nI op ∧ op + 2 + k ≤ t ∧ i0 ≤ oc ∧ a0 ≤ cs ∧ m_St mt kn mf mm tg tv hn V0 W H X.2.2.1 Y.2.1 Y.2.2.2.1 Y.2.2.2.2 op cs t (fun vpc => m_Ce Z H X.2.2.2 X.2.1 vpc (oc - i0) i0 a0 cs u) := h
/-- an order of one hook: SIZE OF, AGE OF, HAS -/
theorem m_ofP (hF : m_TF tp mt z n tk tg ts tl tv kn mf mm) (h : m_PS mt kn mf mm n tg tv hn V0 W Z H (k + 1) i0 a0 u t X Y) {d : Nat} {w : Int32} (hd : (d = 25 ∧ w = 5) ∨ (d = 26 ∧ w = 21) ∨ (d = 27 ∧ w = 22)) :
    ∃ hv rd' qn' qu' qd' mp1 pc1 ok Y', f_X7_readHook X.1 X.2.2.1 hn tk tv tg = some (hv, rd') ∧ f_X6_addOrder X.1 X.2.1 X.2.2.2 d hv = some (qn', qu', qd') ∧ f_X15_put Y.2.2.1 Y.2.2.2.1 w = some (mp1, pc1) ∧ f_X15_isName Y.1 kn Y.2.1 mp1 pc1 Y.2.2.2.2 5 = some (ok, Y') ∧ m_Fr X Y (qn', qu', rd', qd') Y' ∧ ((ok = false ∧ m_Bad n (qn', qu', rd', qd') Y') ∨ (ok = true ∧ m_PS mt kn mf mm n tg tv hn V0 W Z H k i0 a0 (u + 1) (t + 1) (qn', qu', rd', qd') Y' ∧ Y'.1 10 = Y.1 10)) := by
  have n400 : n ≤ 400 := hF.2.2.1
  have hd49 : d < 49 := by omega
  obtain ⟨h1, h2, h3, h4, h5, h6, oc, cs, op, a1, a2, a3, a4, a5, a6, a7, a8, h7⟩ := m_PS_St h
  have hn1 := m_St_n1 h7
  obtain ⟨s, s1, s2, s3, -, s4, s5⟩ := m_sg hF h1
  have e16 : q_up Y.2.2.1 14 (nI (cs + 1)) 16 = nI op := (m_up_n (by decide)).trans a5
  have isn := m_isNameP (mr := Y.2.1) (pc := q_up Y.2.2.2.1 cs w) (pw := Y.2.2.2.2) h3 (show t < 401 by omega) s1 s3 e16 (by omega) (m_up_s (j := 14)) (show cs + 1 < 800 by omega)
  have hput : f_X15_put Y.2.2.1 Y.2.2.2.1 w = some (q_up Y.2.2.1 14 (nI (cs + 1)), q_up Y.2.2.2.1 cs w) := m_putP a3 (by omega)
  have fr3 : ∀ j, j ≠ 14 → j ≠ 16 → q_up (q_up (q_up Y.2.2.1 14 (nI (cs + 1))) 16 (nI (op + 1))) 14 (nI (cs + 1 + 1)) j = Y.2.2.1 j := fun j x1 x2 => (m_up_n x1).trans ((m_up_n x2).trans (m_up_n x1))
  have hadd : ∀ v, f_X6_addOrder X.1 X.2.1 X.2.2.2 d v = some (q_up X.1 5 (nI (oc + 1)), q_up X.2.1 oc v, q_up X.2.2.2 oc (some d)) := fun v => m_addP hd49 a1 (by omega)
  by_cases e : s = 3
  · subst e
    have ht : t < n := by
      rcases Nat.lt_or_ge t n with h | h
      · exact h
      · have := s5 (by omega)
        omega
    rw [if_pos rfl] at isn
    obtain ⟨hv, rd', c1, c2, c3, c4, c5⟩ := m_St_name (V0 := V0) (W := W) (op := op) (cs := cs + 1) (pc := q_up Y.2.2.2.1 cs w) (pw := Y.2.2.2.2) hF h2 hn1 ht s2 h5 h6 (by omega) h4
    refine ⟨_, _, _, _, _, _, _, _, _, c1, hadd _, hput, isn, ⟨fun j hj => m_up_n hj, fun j x1 x2 => m_up_n x1, fr3⟩, Or.inr ⟨rfl, ?_, (show q_up Y.1 9 (nI (t + 1)) 10 = _ from m_up_n (by decide))⟩⟩
    refine ⟨by omega, c3, (show q_up Y.1 9 (nI (t + 1)) 9 = _ from m_up_s), fun i x1 x2 => (m_up_n (by omega)).trans (h4 i (by omega) x2), h5, (show q_up X.1 5 (nI (oc + 1)) 3 = _ from (m_up_n (by decide)).trans h6), oc + 1, cs + 1 + 1, op + 1, (show q_up X.1 5 (nI (oc + 1)) 5 = _ from m_up_s), by omega, (show q_up (q_up (q_up Y.2.2.1 14 (nI (cs + 1))) 16 (nI (op + 1))) 14 (nI (cs + 1 + 1)) 14 = _ from m_up_s), by omega, (show q_up (q_up (q_up Y.2.2.1 14 (nI (cs + 1))) 16 (nI (op + 1))) 14 (nI (cs + 1 + 1)) 16 = _ from (m_up_n (by decide)).trans m_up_s), by omega, by omega, by omega, ?_⟩
    refine c5 (fun vpc => m_Ce Z H X.2.2.2 X.2.1 vpc (oc - i0) i0 a0 cs u ∧ vpc cs = w) _ (m_St_put h7 (fun v q => ⟨m_Ce_pc q a8 (fun j q1 => m_up_n (by omega)), m_up_s⟩)) (fun v hv6 q => ?_)
    refine m_Ce_one a7 (m_Ce_pc q.1 a8 (fun j q1 => m_up_n (by omega))) ?_
    refine Or.inr (Or.inr (Or.inl ⟨rfl, rfl, ⟨hv, c2, rfl, hv6, m_up_s⟩, ?_⟩))
    rw [m_up_n (show cs ≠ cs + 1 by omega), q.2]
    exact hd
  · rw [if_neg e] at isn
    have hh : f_X7_readHook X.1 X.2.2.1 hn tk tv tg = some (0, m_fl X.2.2.1) := by
      obtain ⟨b1, b2⟩ := m_signP hF h2 hn1 h1 s2
      unfold f_X7_readHook
      rw [b1, Option.bind_some, m_e49 b2, Option.bind_some, if_neg e, m_failP hn1]; rfl
    exact ⟨_, _, _, _, _, _, _, _, _, hh, hadd _, hput, isn, ⟨fun j hj => m_up_n hj, fun j x1 x2 => rfl, fr3⟩, Or.inl ⟨rfl, m_bad h2 h3 h1⟩⟩
end
