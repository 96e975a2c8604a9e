/-! MATH: moves of reading, on both sides -/
section
variable {tp mt tk ts tl tv kn mf mm hn : m_Rr} {z n : Nat} {tg : Nat → Option Nat} {V0 : m_V} {W : m_Rr × m_Rr × m_Rr × m_Rr × m_Rr} {Z : m_Z} {H k i0 a0 u t : Nat} {X : m_PX} {Y : m_PY}
theorem m_e49 {s : Nat} (h : s < 49) : q_e49 s = some () := by unfold q_e49; rw [if_pos h]
/-- the class looks at the token -/
theorem m_signP (hF : m_TF tp mt z n tk tg ts tl tv kn mf mm) {rd : m_Rr} (h3 : rd 3 = nI t) (h4 : rd 4 ≠ 1) (ht : t ≤ n) {s : Nat} (hs : tg t = some s) : f_X7_sign rd tk tg = some s ∧ s < 49 := by
  obtain ⟨s', a1, a2, a3, a4, a5, a6⟩ := m_sg hF ht
  obtain rfl : s' = s := Option.some.inj (a2.symm.trans hs)
  unfold f_X7_sign
  rw [if_pos h4, h3, a4, Option.bind_some, m_e49 a1]
  exact ⟨rfl, a1⟩
def m_fl (rd : m_Rr) : m_Rr := q_up (q_up rd 4 1) 5 ((q_up rd 4 1) 3)
theorem m_failP {rd : m_Rr} (h4 : rd 4 ≠ 1) : f_X7_fail rd = some (m_fl rd) := by unfold f_X7_fail; rw [if_neg h4]; rfl
theorem m_fl_4 {rd : m_Rr} : m_fl rd 4 = 1 := by unfold m_fl; rw [m_up_n (by decide), m_up_s]
theorem m_fl_5 {rd : m_Rr} : m_fl rd 5 = rd 3 := by unfold m_fl; rw [m_up_s, m_up_n (by decide)]
/-- the class behind error 1: all stays -/
theorem m_signE {rd : m_Rr} (h : rd 4 = 1) : f_X7_sign rd tk tg = some 1 := by unfold f_X7_sign; rw [if_neg (fun z => z h)]
theorem m_failE {rd : m_Rr} (h : rd 4 = 1) : f_X7_fail rd = some rd := by unfold f_X7_fail; rw [if_pos h]
theorem m_takeE {rd : m_Rr} (h : rd 4 = 1) {x : Nat} (hx : x < 49) (hx1 : x ≠ 1) : f_X7_take rd tk tg x = some (false, rd) := by
  unfold f_X7_take
  rw [m_e49 hx, Option.bind_some, m_signE h, Option.bind_some, m_e49 (by decide), Option.bind_some, if_neg (fun z => hx1 z.symm), m_failE h]; rfl
theorem m_hookE {rd qn : m_Rr} (h : rd 4 = 1) : f_X7_readHook qn rd hn tk tv tg = some (0, rd) := by
  unfold f_X7_readHook
  rw [m_signE h, Option.bind_some, m_e49 (by decide), Option.bind_some, if_neg (by decide), m_failE h]; rfl
/-- orders are put down, whatever stands there -/
theorem m_addT {qn qu : m_Rr} {qd : Nat → Option Nat} {d : Nat} {v : Int32} (hd : d < 49) : ∃ qn' qu' qd', f_X6_addOrder qn qu qd d v = some (qn', qu', qd') ∧ ∀ j, j ≠ 5 → qn' j = qn j := by
  unfold f_X6_addOrder
  rw [m_e49 hd, Option.bind_some]
  by_cases h1 : qn 5 < 0
  · exact ⟨qn, qu, qd, by rw [if_pos h1], fun _ _ => rfl⟩
  · rw [if_neg h1]
    by_cases h2 : (400 : Int32) ≤ qn 5
    · exact ⟨qn, qu, qd, by rw [if_pos h2], fun _ _ => rfl⟩
    · obtain ⟨j, j1, j2⟩ := nI_of h1
      have j4 : j < 400 := by
        rcases Nat.lt_or_ge j 400 with h | h
        · exact h
        · exact absurd (by rw [j2]; exact nI_le (a := 400) h j1) h2
      rw [if_neg h2, j2, q_ix_nI j4 (by decide)]
      exact ⟨_, _, _, rfl, fun i hi => m_up_n hi⟩
theorem m_addP {qn qu : m_Rr} {qd : Nat → Option Nat} {d oc : Nat} {v : Int32} (hd : d < 49) (h5 : qn 5 = nI oc) (ho : oc < 400) : f_X6_addOrder qn qu qd d v = some (q_up qn 5 (nI (oc + 1)), q_up qu oc v, q_up qd oc (some d)) := by
  unfold f_X6_addOrder
  rw [m_e49 hd, Option.bind_some, h5, if_neg (nI_pos (by omega)), if_neg (show ¬ (400 : Int32) ≤ nI oc from nI_ge (b := 400) ho (by decide)), q_ix_nI ho (by decide), Option.bind_some, Option.bind_some, nI_1]
theorem m_putP {mp pc : m_Rr} {cs : Nat} {w : Int32} (h : mp 14 = nI cs) (hc : cs < 800) : f_X15_put mp pc w = some (q_up mp 14 (nI (cs + 1)), q_up pc cs w) := by
  unfold f_X15_put
  rw [h, q_ix_nI hc (by decide), Option.bind_some, nI_1]
/-- the reference looks at the token -/
theorem m_isP {md : m_Rr} (h : md 9 = nI t) (ht : t < 401) {s : Nat} (hs : s < 49) (hk : kn t = m_kd s) {x : Nat} (hx : x < 49) : f_X15_is md kn (m_kd x) = some (decide (s = x)) := by
  unfold f_X15_is
  rw [h, q_ix_nI ht (by decide), Option.bind_some, hk]
  by_cases e : s = x
  · rw [e, if_neg (fun z => z rfl), decide_eq_true rfl]
  · rw [if_pos (fun z => e (m_kd_inj s hs x hx z)), decide_eq_false e]
theorem m_eatP {md : m_Rr} (h : md 9 = nI t) (ht : t < 401) {s : Nat} (hs : s < 49) (hk : kn t = m_kd s) {x : Nat} (hx : x < 49) : f_X15_eat md kn (m_kd x) = some (if s = x then (true, q_up md 9 (nI (t + 1))) else (false, md)) := by
  unfold f_X15_eat
  rw [m_isP h ht hs hk hx, Option.bind_some]
  by_cases e : s = x
  · rw [decide_eq_true e, if_pos e, if_pos (by decide), h, nI_1]
  · rw [decide_eq_false e, if_neg e, if_neg (fun z => z rfl)]
theorem m_takeP (hF : m_TF tp mt z n tk tg ts tl tv kn mf mm) {rd : m_Rr} (h3 : rd 3 = nI t) (h4 : rd 4 ≠ 1) (ht : t ≤ n) {s : Nat} (hs : tg t = some s) {x : Nat} (hx : x < 49) : f_X7_take rd tk tg x = some (if s = x then (true, q_up rd 3 (nI (t + 1))) else (false, m_fl rd)) := by
  obtain ⟨a1, a2⟩ := m_signP hF h3 h4 ht hs
  unfold f_X7_take
  rw [m_e49 hx, Option.bind_some, a1, Option.bind_some, m_e49 a2, Option.bind_some]
  by_cases e : s = x
  · rw [if_pos e, if_pos e, h3, nI_1]
  · rw [if_neg e, if_neg e, m_failP h4]; rfl
theorem m_bad {qn qu rd : m_Rr} {qd : Nat → Option Nat} {md mr mp pc pw : m_Rr} (h3 : rd 3 = nI t) (h9 : md 9 = nI t) (ht : t ≤ n) : m_Bad n (qn, qu, m_fl rd, qd) (md, mr, mp, pc, pw) := ⟨m_fl_4 (rd := rd), t, ht, (m_fl_5 (rd := rd)).trans h3, h9⟩
/-- an order behind what it is of: one word -/
theorem m_opP (hn4 : n ≤ 400) (h : m_PS mt kn mf mm n tg tv hn V0 W Z H (k + 1) i0 a0 u t X Y) {d u' : Nat} {w v : Int32} (hd : d < 49) (hO : ∀ (N : Nat → Nat → Prop) (pc : m_Rr) (cs : Nat), pc cs = w → m_O N pc d v cs (cs + 1) u u') :
    ∃ qn' qu' qd' mp' pc', f_X6_addOrder X.1 X.2.1 X.2.2.2 d v = some (qn', qu', qd') ∧ f_X15_put Y.2.2.1 Y.2.2.2.1 w = some (mp', pc') ∧ m_PS mt kn mf mm n tg tv hn V0 W Z H k i0 a0 u' t (qn', qu', X.2.2.1, qd') (Y.1, Y.2.1, mp', pc', Y.2.2.2.2) ∧ m_Fr X Y (qn', qu', X.2.2.1, qd') (Y.1, Y.2.1, mp', pc', Y.2.2.2.2) := by
  obtain ⟨h1, h2, h3, h4, h5, h6, oc, cs, op, a1, a2, a3, a4, a5, a6, a7, a8, h7⟩ := h
  refine ⟨_, _, _, _, _, m_addP hd a1 (by omega), m_putP a3 (by omega), ⟨h1, h2, h3, h4, h5, (show q_up X.1 5 (nI (oc + 1)) 3 = _ from (m_up_n (by decide)).trans h6), oc + 1, cs + 1, op, (show q_up X.1 5 (nI (oc + 1)) 5 = _ from m_up_s), by omega, (show q_up Y.2.2.1 14 (nI (cs + 1)) 14 = _ from m_up_s), by omega, (show q_up Y.2.2.1 14 (nI (cs + 1)) 16 = _ from (m_up_n (by decide)).trans a5), by omega, by omega, by omega, ?_⟩, fun j hj => m_up_n hj, fun _ _ _ => rfl, fun j hj _ => m_up_n hj⟩
  rcases h7 with h7 | ⟨b1, ve, vpc, b3, b4, b5, b6⟩
  · exact Or.inl h7
  · refine Or.inr ⟨b1, ve, q_up vpc cs w, b3, b4, ⟨fun o ho => ?_, b5.2.1, fun j hj hno => ?_⟩, ?_⟩
    · obtain ⟨j, x, x1, x2, x3, x4, x5⟩ := b5.1 o ho
      exact ⟨j, x, x1, by omega, (m_up_n (by omega)).trans x3, x4, (m_up_n (by omega)).trans x5⟩
    · by_cases e : j = cs
      · subst e; exact m_up_s.trans m_up_s.symm
      · exact (m_up_n e).trans ((b5.2.2 j (by omega) hno).trans (m_up_n e).symm)
    · exact m_Ce_one a7 (m_Ce_pc b6 a8 (fun j q => m_up_n (by omega))) (hO _ _ cs m_up_s)
/-- a number -/
theorem m_numP (hn4 : n ≤ 400) (h : m_PS mt kn mf mm n tg tv hn V0 W Z H (k + 1) i0 a0 u t X Y) (v : Int32) :
    ∃ qn' qu' qd' mp' pc' mp2 pc2, f_X6_addOrder X.1 X.2.1 X.2.2.2 2 v = some (qn', qu', qd') ∧ f_X15_put Y.2.2.1 Y.2.2.2.1 32 = some (mp', pc') ∧ f_X15_put mp' pc' v = some (mp2, pc2) ∧ m_PS mt kn mf mm n tg tv hn V0 W Z H k i0 a0 (u + 1) t (qn', qu', X.2.2.1, qd') (Y.1, Y.2.1, mp2, pc2, Y.2.2.2.2) ∧ m_Fr X Y (qn', qu', X.2.2.1, qd') (Y.1, Y.2.1, mp2, pc2, Y.2.2.2.2) := by
  obtain ⟨h1, h2, h3, h4, h5, h6, oc, cs, op, a1, a2, a3, a4, a5, a6, a7, a8, h7⟩ := h
  refine ⟨_, _, _, _, _, _, _, m_addP (by decide) a1 (by omega), m_putP a3 (by omega), m_putP m_up_s (by omega), ⟨h1, h2, h3, h4, h5, (show q_up X.1 5 (nI (oc + 1)) 3 = _ from (m_up_n (by decide)).trans h6), oc + 1, cs + 1 + 1, op, (show q_up X.1 5 (nI (oc + 1)) 5 = _ from m_up_s), by omega, (show q_up (q_up Y.2.2.1 14 (nI (cs + 1))) 14 (nI (cs + 1 + 1)) 14 = _ from m_up_s), by omega, (show q_up (q_up Y.2.2.1 14 (nI (cs + 1))) 14 (nI (cs + 1 + 1)) 16 = _ from (m_up_n (by decide)).trans ((m_up_n (by decide)).trans a5)), by omega, by omega, by omega, ?_⟩, fun j hj => m_up_n hj, fun _ _ _ => rfl, fun j hj _ => (m_up_n hj).trans (m_up_n hj)⟩
  rcases h7 with h7 | ⟨b1, ve, vpc, b3, b4, b5, b6⟩
  · exact Or.inl h7
  · refine Or.inr ⟨b1, ve, q_up (q_up vpc cs 32) (cs + 1) v, b3, b4, ⟨fun o ho => ?_, b5.2.1, fun j hj hno => ?_⟩, ?_⟩
    · obtain ⟨j, x, x1, x2, x3, x4, x5⟩ := b5.1 o ho
      exact ⟨j, x, x1, by omega, ((m_up_n (by omega)).trans (m_up_n (by omega))).trans x3, x4, ((m_up_n (by omega)).trans (m_up_n (by omega))).trans x5⟩
    · show q_up (q_up vpc cs 32) (cs + 1) v j = q_up (q_up Y.2.2.2.1 cs 32) (cs + 1) v j
      rw [m_up_of, m_up_of, m_up_of, m_up_of]
      by_cases e : j = cs + 1
      · rw [if_pos e, if_pos e]
      · rw [if_neg e, if_neg e]
        by_cases e2 : j = cs
        · rw [if_pos e2, if_pos e2]
        · rw [if_neg e2, if_neg e2]; exact b5.2.2 j (by omega) hno
    · exact m_Ce_one a7 (m_Ce_pc b6 a8 (fun j q => (m_up_n (by omega)).trans (m_up_n (by omega)))) (Or.inl ⟨rfl, rfl, (m_up_n (by omega)).trans m_up_s, m_up_s, rfl⟩)
/-- the name of a hook that is told, or of none: both sides -/
theorem m_hookP (hF : m_TF tp mt z n tk tg ts tl tv kn mf mm) {rd qn mr : m_Rr} (h3 : rd 3 = nI t) (h4 : rd 4 ≠ 1) (ht : t < n) (hs : tg t = some 3) (hH : H ≤ 6) (hq : qn 3 = nI H) :
    ∃ hv rd', f_X7_readHook qn rd hn tk tv tg = some (nI hv, rd') ∧ hv < 6 ∧ rd' 3 = nI (t + 1) ∧ rd' 4 ≠ 1 ∧ (rd 4 ≠ 0 → rd' 4 = rd 4 ∧ rd' 5 = rd 5) ∧ (rd 4 = 0 → m_ix (tv t) hn H 0 = H → rd' 4 = 3 ∧ rd' 5 = nI t) ∧ (rd 4 = 0 → m_ix (tv t) hn H 0 ≠ H → rd' 4 = 0 ∧ hv = m_ix (tv t) hn H 0 ∧ hv < H) := by
  have n400 : n ≤ 400 := hF.2.2.1
  obtain ⟨a1, a2⟩ := m_signP hF h3 h4 (by omega) hs
  have hle := (m_ix_le (v := tv t) (hn := hn) (n := H) (h := 0)).2
  have e : f_X7_readHook qn rd hn tk tv tg = if ¬ (if m_ix (tv t) hn H 0 = H then -1 else nI (m_ix (tv t) hn H 0)) = (-1 : Int32) then some (q_max (if m_ix (tv t) hn H 0 = H then -1 else nI (m_ix (tv t) hn H 0)) 0, q_up rd 3 (nI (t + 1))) else (f_X7_blame rd 3 (nI t)).bind fun r8 => some (q_max (if m_ix (tv t) hn H 0 = H then -1 else nI (m_ix (tv t) hn H 0)) 0, q_up r8 3 (r8 3 + 1)) := by
    unfold f_X7_readHook
    rw [a1, Option.bind_some, m_e49 a2, Option.bind_some, if_pos rfl, h3, m_tval hF (by omega), Option.bind_some, m_hookC hH hq, Option.bind_some, nI_1]
  rw [e]
  by_cases hx : m_ix (tv t) hn H 0 = H
  · rw [if_pos hx, if_neg (fun z => z rfl)]
    by_cases h0 : rd 4 = 0
    · refine ⟨0, q_up (q_up (q_up rd 4 3) 5 (nI t)) 3 (nI (t + 1)), ?_, by decide, m_up_s, ?_, fun hh => absurd h0 hh, fun _ _ => ⟨?_, ?_⟩, fun _ hh => absurd hx hh⟩
      · unfold f_X7_blame
        rw [if_neg (fun z => z h0), Option.bind_some, show q_max (-1) 0 = nI 0 from rfl]
        rw [show q_up (q_up rd 4 3) 5 (nI t) 3 = nI t from (m_up_n (by decide)).trans ((m_up_n (by decide)).trans h3), nI_1]
      · rw [m_up_n (by decide), m_up_n (by decide), m_up_s]; decide
      · rw [m_up_n (by decide), m_up_n (by decide), m_up_s]
      · rw [m_up_n (by decide), m_up_s]
    · refine ⟨0, q_up rd 3 (nI (t + 1)), ?_, by decide, m_up_s, by rw [m_up_n (by decide)]; exact h4, fun _ => ⟨m_up_n (by decide), m_up_n (by decide)⟩, fun hh => absurd hh h0, fun hh => absurd hh h0⟩
      unfold f_X7_blame
      rw [if_pos h0, Option.bind_some, h3, nI_1]; rfl
  · rw [if_neg hx, if_pos (m_nI_m1 (by omega))]
    refine ⟨m_ix (tv t) hn H 0, q_up rd 3 (nI (t + 1)), ?_, by omega, m_up_s, by rw [m_up_n (by decide)]; exact h4, fun _ => ⟨m_up_n (by decide), m_up_n (by decide)⟩, fun _ hh => absurd hh hx, fun h0 _ => ⟨(m_up_n (by decide)).trans h0, rfl, by omega⟩⟩
    rw [show q_max (nI (m_ix (tv t) hn H 0)) 0 = nI (m_ix (tv t) hn H 0) from by unfold q_max; rw [if_neg (nI_pos (by omega))]]
/-- a name that stands for a hook (part 5) in the pass -/
theorem m_lookP (hF : m_TF tp mt z n tk tg ts tl tv kn mf mm) {mr : m_Rr} {V : m_V} (hK : m_Hk tg tv hn mr t H) (ht : t < n) (hs : tg t = some 3) : m_eo mt kn mf mm (q_up mr t 5) V t = some (if m_ix (tv t) hn H 0 = H then 3 else 0, (q_up V.1 t (if m_ix (tv t) hn H 0 = H then -1 else nI (m_ix (tv t) hn H 0)), V.2)) := by
  have n400 : n ≤ 400 := hF.2.2.1
  have hK' : m_Hk tg tv hn (q_up mr t 5) t H := by
    obtain ⟨k1, k2, k3⟩ := hK
    have e : m_hl (q_up mr t 5) t = m_hl mr t := m_hl_congr (fun j hj => m_up_n (by omega))
    exact ⟨k1, by rw [e]; exact k2, by rw [e]; exact k3⟩
  have hle := (m_ix_le (v := tv t) (hn := hn) (n := H) (h := 0)).2
  have hH := hK.1
  unfold m_eo f_X15_errorOf f_X15_look
  rw [q_ix_nI (show t < 401 by omega) (by decide), Option.bind_some, m_up_s, if_neg (by decide), if_neg (by decide), if_neg (by decide), if_neg (by decide), if_neg (by decide), if_pos rfl, m_toldR hF hK' ht hs, Option.bind_some, Option.bind_some, Option.bind_some, m_up_s]
  by_cases hx : m_ix (tv t) hn H 0 = H
  · rw [if_pos hx, if_pos hx, if_neg (fun z => z rfl)]; rfl
  · rw [if_neg hx, if_neg hx, if_pos (m_nI_m1 (by omega))]; rfl
end
