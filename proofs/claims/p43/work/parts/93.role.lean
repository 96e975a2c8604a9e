/-! MATH: words of a line that tell something -/
section
variable {tp mt tk ts tl tv kn mf mm hn : m_Rr} {z n : Nat} {tg : Nat → Option Nat} {V0 : m_V} {mq pd po pq pr : m_Rr} {H t : Nat} {qn qu rd md mr mp pc pw : m_Rr} {qd : Nat → Option Nat} {oc cs op s : Nat} {Q Q' : m_Rr → Prop}
theorem m_dn20 : ∀ d, d < 20 → nI (d + 1) - 1 = nI d := by decide
theorem m_pre {a : Nat} : nI (a + 1) - 1 = nI a := by
  rw [show (1 : Int32) = nI 1 from rfl, m_subI (by omega), Nat.add_sub_cancel]
theorem m_Hk_up {mr : m_Rr} {r : Int32} (hK : m_Hk tg tv hn mr t H) : m_Hk tg tv hn (q_up mr t r) t H := by
  obtain ⟨k1, k2, k3⟩ := hK
  have e : m_hl (q_up mr t r) t = m_hl mr t := m_hl_congr (fun j hj => m_up_n (by omega))
  exact ⟨k1, by rw [e]; exact k2, by rw [e]; exact k3⟩
theorem m_Hk_s {mr : m_Rr} {r : Int32} (hr : r ≠ 1) (hK : m_Hk tg tv hn mr t H) : m_Hk tg tv hn (q_up mr t r) (t + 1) H := by
  obtain ⟨k1, k2, k3⟩ := m_Hk_up (r := r) hK
  refine ⟨k1, ?_, ?_⟩
  · rw [m_hl_s, if_neg (by rw [m_up_s]; exact hr)]; exact k2
  · rw [m_hl_s, if_neg (by rw [m_up_s]; exact hr)]; exact k3
theorem m_Pt_s {vpc pc pw ve ve' : m_Rr} (h : m_Pt vpc pc pw ve op cs t) (hv : ∀ j, j < t → ve' j = ve j) : m_Pt vpc pc pw ve' op cs (t + 1) :=
  ⟨fun o ho => by
    obtain ⟨j, x, x1, x2, x3, x4, x5⟩ := h.1 o ho
    exact ⟨j, x, x1, x2, x3, by omega, x5.trans (hv x x4).symm⟩, h.2⟩
theorem m_lookR (hF : m_TF tp mt z n tk tg ts tl tv kn mf mm) {me : m_Rr} {r : Int32} (hK : m_Hk tg tv hn mr t H) (ht : t < n) (hs : tg t = some 3) : f_X15_look mt mf mm (q_up mr t r) me (nI t) 1 = some (if m_ix (tv t) hn H 0 = H then 3 else 0, q_up me t (if m_ix (tv t) hn H 0 = H then -1 else nI (m_ix (tv t) hn H 0))) := by
  have n400 : n ≤ 400 := hF.2.2.1
  have hle := (m_ix_le (v := tv t) (hn := hn) (n := H) (h := 0)).2
  have hH := hK.1
  unfold f_X15_look
  rw [m_toldR hF (m_Hk_up hK) ht hs, Option.bind_some, q_ix_nI (show t < 401 by omega) (by decide), Option.bind_some, Option.bind_some, m_up_s]
  by_cases hx : m_ix (tv t) hn H 0 = H
  · rw [if_pos hx, if_pos hx, if_neg (fun z => z rfl)]
  · rw [if_neg hx, if_neg hx, if_pos (m_nI_m1 (by omega))]
theorem m_eo3 (hF : m_TF tp mt z n tk tg ts tl tv kn mf mm) {ve : m_Rr} (hK : m_Hk tg tv hn mr t H) (ht : t < n) (hs : tg t = some 3) (hm : mq 4 = nI (s + 1)) (hs20 : s < 20) : m_eo mt kn mf mm (q_up mr t 3) (ve, mq, pd, po, pq, pr) t = some (if m_ix (tv t) hn H 0 = H then 3 else 0, (q_up ve t (if m_ix (tv t) hn H 0 = H then -1 else nI (m_ix (tv t) hn H 0)), mq, pd, q_up po s (if m_ix (tv t) hn H 0 = H then -1 else nI (m_ix (tv t) hn H 0)), pq, pr)) := by
  have n400 : n ≤ 400 := hF.2.2.1
  have q : q_ix (nI t) 401 = some t := q_ix_nI (by omega) (by decide)
  unfold m_eo f_X15_errorOf f_X15_ofStep
  rw [q, Option.bind_some, m_up_s, if_neg (by decide), if_neg (by decide), if_neg (by decide), if_pos rfl, m_lookR hF hK ht hs, Option.bind_some, Option.bind_some, m_up_s, if_neg (fun y => y rfl), Option.bind_some]
  dsimp only
  rw [hm, m_dn20 s hs20, q_ix_nI hs20 (by decide), Option.bind_some, m_up_s]; rfl
theorem m_eo4 (hF : m_TF tp mt z n tk tg ts tl tv kn mf mm) {ve : m_Rr} (hK : m_Hk tg tv hn mr t H) (ht : t < n) (hs : tg t = some 3) (hm : mq 4 = nI (s + 1)) (hs20 : s < 20) : m_eo mt kn mf mm (q_up mr t 4) (ve, mq, pd, po, pq, pr) t = some (if m_ix (tv t) hn H 0 = H then 3 else 0, (q_up ve t (if m_ix (tv t) hn H 0 = H then -1 else nI (m_ix (tv t) hn H 0)), mq, pd, po, q_up pq s (if m_ix (tv t) hn H 0 = H then -1 else nI (m_ix (tv t) hn H 0)), pr)) := by
  have n400 : n ≤ 400 := hF.2.2.1
  have q : q_ix (nI t) 401 = some t := q_ix_nI (by omega) (by decide)
  unfold m_eo f_X15_errorOf f_X15_ofStep
  rw [q, Option.bind_some, m_up_s, if_neg (by decide), if_neg (by decide), if_neg (by decide), if_neg (by decide), if_pos rfl, m_lookR hF hK ht hs, Option.bind_some, Option.bind_some, m_up_s, if_pos (by decide), Option.bind_some]
  dsimp only
  rw [hm, m_dn20 s hs20, q_ix_nI hs20 (by decide), Option.bind_some, m_up_s]; rfl
/-- a hook of a step, on both sides; W': as it is with the hook told -/
theorem m_St_hookR (hF : m_TF tp mt z n tk tg ts tl tv kn mf mm) {r : Int32} (hr1 : r ≠ 1) {W W' : m_Rr × m_Rr × m_Rr × m_Rr × m_Rr} (F : Int32 → m_Rr × m_Rr × m_Rr × m_Rr × m_Rr) (h3 : rd 3 = nI t) (h4 : rd 4 ≠ 1) (ht : t < n) (hs : tg t = some 3) (hH : H ≤ 6) (hq : qn 3 = nI H)
    (hE : ∀ v ve, m_Hk tg tv hn mr t H → Q v → m_eo mt kn mf mm (q_up mr t r) (ve, W) t = some (if m_ix (tv t) hn H 0 = H then 3 else 0, (q_up ve t (if m_ix (tv t) hn H 0 = H then -1 else nI (m_ix (tv t) hn H 0)), F (if m_ix (tv t) hn H 0 = H then -1 else nI (m_ix (tv t) hn H 0))))) :
    ∃ hv rd', f_X7_readHook qn rd hn tk tv tg = some (nI hv, rd') ∧ hv < 6 ∧ rd' 3 = nI (t + 1) ∧ rd' 4 ≠ 1 ∧ (m_St mt kn mf mm tg tv hn V0 W H rd mr pc pw op cs t Q → m_St mt kn mf mm tg tv hn V0 (F (nI hv)) H rd' (q_up mr t r) pc pw op cs (t + 1) (fun v => Q v ∧ hv < H)) := by
  have n400 : n ≤ 400 := hF.2.2.1
  obtain ⟨hv, rd', c1, c2, c3, c4, c5, c6, c7⟩ := m_hookP (mr := mr) hF h3 h4 ht hs hH hq
  refine ⟨hv, rd', c1, c2, c3, c4, fun h => ?_⟩
  have cg : m_p2 mt kn mf mm (q_up mr t r) V0 t = m_p2 mt kn mf mm mr V0 t := m_p2_congr (by omega) (fun j hj => m_up_n (by omega))
  rcases h with ⟨b1, b2, j, V, b3, b4, b5⟩ | ⟨b1, ve, vpc, b3, b4, b5, b6⟩
  · obtain ⟨d1, d2⟩ := c5 b1
    exact Or.inl ⟨by rw [d1]; exact b1, by rw [d1]; exact b2, j, V, by rw [d1]; exact m_p2_err (cg.trans b3) b1, d2.trans b4, by omega⟩
  · have lk := hE vpc ve b4 b6
    by_cases hx : m_ix (tv t) hn H 0 = H
    · obtain ⟨d1, d2⟩ := c6 b1 hx
      rw [if_pos hx, if_pos hx] at lk
      exact Or.inl ⟨by rw [d1]; decide, by rw [d1]; decide, t, _, by rw [d1]; exact m_p2_bad (cg.trans b3) lk (by decide), d2, by omega⟩
    · obtain ⟨d1, d2, d3⟩ := c7 b1 hx
      rw [if_neg hx, if_neg hx, ← d2] at lk
      exact Or.inr ⟨d1, q_up ve t (nI hv), vpc, m_p2_ok (cg.trans b3) lk, m_Hk_s hr1 b4, m_Pt_s b5 (fun j hj => m_up_n (by omega)), b6, d3⟩
end
