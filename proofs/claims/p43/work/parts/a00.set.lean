/-! MATH: lines that set something, on both sides -/
section
variable {tp mt tk ts tl tv kn mf mm hn : m_Rr} {z n : Nat} {tg : Nat → Option Nat} {V0 : m_V} {H t : Nat} {qn qu rd md mr mp ps pt pe pc pw : m_Rr} {qd : Nat → Option Nat} {oc cs op s : Nat} {T2 : Nat → m_Rr} {K2 : Nat → Nat → Option Nat}
theorem m_eo6 (hF : m_TF tp mt z n tk tg ts tl tv kn mf mm) {ve mq pd po pq pr : m_Rr} (ht : t < n) (hs : tg t = some 2) : m_eo mt kn mf mm (q_up mr t 6) (ve, mq, pd, po, pq, pr) t = some (m_nr 8 64 (tv t), (ve, q_up mq 1 (tv t), pd, po, pq, pr)) := by
  have n400 : n ≤ 400 := hF.2.2.1
  have q : q_ix (nI t) 401 = some t := q_ix_nI (by omega) (by decide)
  have nu := m_tnum hF ht hs
  unfold m_eo f_X15_errorOf f_X15_number
  rw [q, Option.bind_some, m_up_s, if_neg (by decide), if_neg (by decide), if_neg (by decide), if_neg (by decide), if_neg (by decide), if_neg (by decide), nu, Option.bind_some, Option.bind_some, m_up_s, if_pos rfl, m_inR nu]; rfl
theorem m_eo7 (hF : m_TF tp mt z n tk tg ts tl tv kn mf mm) {ve mq pd po pq pr : m_Rr} (ht : t < n) (hs : tg t = some 2) : m_eo mt kn mf mm (q_up mr t 7) (ve, mq, pd, po, pq, pr) t = some (m_nr 0 64 (tv t), (ve, q_up mq 2 (tv t), pd, po, pq, pr)) := by
  have n400 : n ≤ 400 := hF.2.2.1
  have q : q_ix (nI t) 401 = some t := q_ix_nI (by omega) (by decide)
  have nu := m_tnum hF ht hs
  unfold m_eo f_X15_errorOf f_X15_number
  rw [q, Option.bind_some, m_up_s, if_neg (by decide), if_neg (by decide), if_neg (by decide), if_neg (by decide), if_neg (by decide), if_neg (by decide), nu, Option.bind_some, Option.bind_some, m_up_s, if_neg (by decide), if_pos rfl, m_inR nu]; rfl
theorem m_eo8 (hF : m_TF tp mt z n tk tg ts tl tv kn mf mm) {ve mq pd po pq pr : m_Rr} (ht : t < n) (hs : tg t = some 2) : m_eo mt kn mf mm (q_up mr t 8) (ve, mq, pd, po, pq, pr) t = some (m_nr 0 5 (tv t), (ve, q_up mq 3 (tv t), pd, po, pq, pr)) := by
  have n400 : n ≤ 400 := hF.2.2.1
  have q : q_ix (nI t) 401 = some t := q_ix_nI (by omega) (by decide)
  have nu := m_tnum hF ht hs
  unfold m_eo f_X15_errorOf f_X15_number
  rw [q, Option.bind_some, m_up_s, if_neg (by decide), if_neg (by decide), if_neg (by decide), if_neg (by decide), if_neg (by decide), if_neg (by decide), nu, Option.bind_some, Option.bind_some, m_up_s, if_neg (by decide), if_neg (by decide), if_pos rfl, m_inR nu]; rfl
theorem m_inN {v lo hi : Int32} {b : Nat} (hl : (0 : Int32) ≤ lo) (h0 : lo ≤ v) (h1 : v ≤ hi) (hb : hi = nI b) (hb2 : b < 2 ^ 20) : ∃ r, r ≤ b ∧ v = nI r := by
  obtain ⟨r, r1, r2⟩ := nI_of (x := v) (Int32.not_lt.mpr (Int32.le_trans hl h0))
  refine ⟨r, ?_, r2⟩
  rcases Nat.lt_or_ge b r with h | h
  · exact absurd (show v ≤ nI b from hb ▸ h1) (by rw [r2]; exact Int32.not_le.mpr (nI_lt h r1))
  · exact h
/-- a setting with a number -/
theorem m_setN (hF : m_TF tp mt z n tk tg ts tl tv kn mf mm) (h : m_LS mt kn mf mm n tg tv V0 t qn qu rd hn qd T2 K2 md mr mp ps pt pe pc pw) (ht : t < n) {r lo hi : Int32} {i i' : Nat} (hi0 : i < 3) (hi1 : i' ≠ 0) (hi4 : i' ≠ 4) (hr1 : r ≠ 1)
    (hE : ∀ ve mq pd po pq pr, t + 1 < n → tg (t + 1) = some 2 → m_eo mt kn mf mm (q_up mr (t + 1) r) (ve, mq, pd, po, pq, pr) (t + 1) = some (m_nr lo hi (tv (t + 1)), (ve, q_up mq i' (tv (t + 1)), pd, po, pq, pr)))
    (hP : ∀ H m hf mq v, lo ≤ v → v ≤ hi → 8 ≤ hf → hf ≤ 64 → m ≤ 64 → m_Pl H m hf qn mq → ∃ m' hf', 8 ≤ hf' ∧ hf' ≤ 64 ∧ m' ≤ 64 ∧ m_Pl H m' hf' (q_up qn i v) (q_up mq i' v)) :
    ∃ v rd' ok md' mr', f_X7_readNumber (q_up rd 3 (nI (t + 1))) tk tv tg lo hi = some (v, rd') ∧ f_X15_eatAs (q_up md 9 (nI (t + 1))) kn mr 41 r = some (ok, md', mr') ∧ ((ok = false ∧ m_Bd n rd' md') ∨ (ok = true ∧ ∃ t', t < t' ∧ m_LS mt kn mf mm n tg tv V0 t' (q_up qn i v) qu rd' hn qd T2 K2 md' mr' mp ps pt pe pc pw)) := by
  have n400 : n ≤ 400 := hF.2.2.1
  obtain ⟨h1, h3, h9, h10, h0, H, oc, cs, op, ns, mq, pd, po, pq, pr, hH, hq3, hq5, a1, a2, a3, a3b, a4, a5, a6, a7, hS⟩ := h
  have g3 : q_up rd 3 (nI (t + 1)) 3 = nI (t + 1) := m_up_s
  have g4 : q_up rd 3 (nI (t + 1)) 4 = rd 4 := m_up_n (by decide)
  have g9 : q_up md 9 (nI (t + 1)) 9 = nI (t + 1) := m_up_s
  have hS1 := m_St_0 (rd' := q_up rd 3 (nI (t + 1))) n400 hS ht (h0 t (Nat.le_refl _) h1) g4 (m_up_n (by decide))
  have hn1 := m_St_n1 hS1
  have h1' : t + 1 ≤ n := by omega
  obtain ⟨p, p1, p2, p3, -, -, -⟩ := m_sg hF h1'
  have ea : f_X15_eatAs (q_up md 9 (nI (t + 1))) kn mr 41 r = some (if p = 2 then (true, q_up (q_up md 9 (nI (t + 1))) 9 (nI (t + 1 + 1)), q_up mr (t + 1) r) else (false, q_up md 9 (nI (t + 1)), q_up mr (t + 1) r)) := by
    unfold f_X15_eatAs
    rw [g9, q_ix_nI (show t + 1 < 401 by omega) (by decide), Option.bind_some, show (41 : Int32) = m_kd 2 from rfl, m_eatP g9 (by omega) p1 p3 (by decide)]
    by_cases e : p = 2
    · rw [if_pos e, if_pos e]; rfl
    · rw [if_neg e, if_neg e]; rfl
  rw [ea]
  by_cases e : p = 2
  · subst e
    have ht' := m_lt hF h1' p2 (by decide)
    obtain ⟨v, rd', c1, c2, c3, c4⟩ := m_St_num (V0 := V0) (pc := pc) (pw := pw) (cs := cs) (op := op) (hn := hn) (H := H) (mr := mr) (Q := fun v => m_QL H oc cs ns qn qu qd T2 K2 mq pd po pq pr ps pt pe v) hF (r := r) (lo := lo) (hi := hi) hr1 (W := (mq, pd, po, pq, pr)) (fun x => (q_up mq i' x, pd, po, pq, pr)) g3 hn1 ht' p2 (fun v ve q => hE ve mq pd po pq pr ht' p2)
    rw [if_pos rfl]
    refine ⟨_, _, _, _, _, c1, rfl, Or.inr ⟨rfl, t + 1 + 1, by omega, by omega, c2, m_up_s, (m_up_n (by decide)).trans ((m_up_n (by decide)).trans h10), fun k x1 x2 => (m_up_n (by omega)).trans (h0 k (by omega) x2), H, oc, cs, op, ns, q_up mq i' v, pd, po, pq, pr, hH, (m_up_n (by omega)).trans hq3, (m_up_n (by omega)).trans hq5, by omega, a2, by omega, a3b, a4, by omega, a6, by omega, m_St_m (c4 hS1) (fun x q => ?_)⟩⟩
    obtain ⟨⟨q1, ⟨m, hf, q2, q2', q2'', q2b⟩, q3, q4, q5⟩, q6, q7⟩ := q
    obtain ⟨m', hf', w1, w2, w3, w4⟩ := hP H m hf mq v q6 q7 q2 q2' q2'' q2b
    exact ⟨q1, ⟨m', hf', w1, w2, w3, w4⟩, (m_up_n (by omega)).trans q3, (m_up_n (by omega)).trans q4, fun k hk => q5 k hk⟩
  · rw [if_neg e]
    exact ⟨_, _, _, _, _, m_numF hF g3 hn1 h1' p2 e, rfl, Or.inl ⟨rfl, m_fl_4 (rd := q_up rd 3 (nI (t + 1))), t + 1, h1', (m_fl_5 (rd := q_up rd 3 (nI (t + 1)))).trans g3, g9⟩⟩
/-- a new hook in the pass -/
theorem m_eo1 (hF : m_TF tp mt z n tk tg ts tl tv kn mf mm) {ve mq pd po pq pr : m_Rr} (hK : m_Hk tg tv hn mr t H) (ht : t < n) (hs : tg t = some 3) (hm : mq 0 = nI H) : m_eo mt kn mf mm (q_up mr t 1) (ve, mq, pd, po, pq, pr) t = some (if m_ix (tv t) hn H 0 = H then (if H = 6 then (4, (ve, q_up mq 0 (nI H), pd, po, pq, pr)) else (0, (ve, q_up mq 0 (nI (H + 1)), pd, po, pq, pr))) else (2, (ve, q_up mq 0 (nI H), pd, po, pq, pr))) := by
  have n400 : n ≤ 400 := hF.2.2.1
  have hle := (m_ix_le (v := tv t) (hn := hn) (n := H) (h := 0)).2
  have hH := hK.1
  have q : q_ix (nI t) 401 = some t := q_ix_nI (by omega) (by decide)
  have z0 : mq 0 + 0 = nI H := by rw [hm]; exact Int32.add_zero _
  unfold m_eo f_X15_errorOf f_X15_newHook f_X15_isNew
  rw [q, Option.bind_some, m_up_s, if_neg (by decide), if_pos rfl, Option.bind_some, m_up_s, m_toldR hF (m_Hk_up hK) ht hs, Option.bind_some]
  by_cases hx : m_ix (tv t) hn H 0 = H
  · rw [if_pos hx, if_pos hx, if_pos rfl]
    by_cases h6 : H = 6
    · subst h6
      rw [if_neg (show ¬ ¬ mq 0 = (6 : Int32) from fun y => y hm), if_pos rfl, Option.bind_some, if_pos (by decide), Option.bind_some]
      dsimp only
      rw [z0]
    · rw [if_pos (show ¬ mq 0 = (6 : Int32) from fun e => h6 ((nI_eq (b := 6) (by omega) (by decide)).mp (hm.symm.trans e))), if_neg h6, Option.bind_some, if_neg (fun y => y rfl), Option.bind_some]
      dsimp only
      rw [hm, nI_1]
  · rw [if_neg hx, if_neg hx, if_neg (m_nI_m1 (by omega)), Option.bind_some, if_pos (by decide), Option.bind_some]
    dsimp only
    rw [z0]
theorem m_Hk_new {mr : m_Rr} (hK : m_Hk tg tv hn mr t H) (hH : H < 6) (hs : tg t = some 3) : m_Hk tg tv (q_up hn H (tv t)) (q_up mr t 1) (t + 1) (H + 1) := by
  obtain ⟨k1, k2, k3⟩ := m_Hk_up (r := 1) hK
  have e : m_hl (q_up mr t 1) (t + 1) = m_hl (q_up mr t 1) t ++ [t] := by rw [m_hl_s, if_pos m_up_s]
  refine ⟨by omega, by rw [e, List.length_append, k2]; rfl, fun h k hk => ?_⟩
  rw [e] at hk
  by_cases hh : h < H
  · rw [List.getElem?_append_left (by omega)] at hk
    rw [m_up_n (by omega)]
    exact k3 h k hk
  · rw [List.getElem?_append_right (by omega), k2] at hk
    have h0 : h - H = 0 := by
      rcases Nat.eq_zero_or_pos (h - H) with g | g
      · exact g
      · rw [List.getElem?_eq_none (by rw [List.length_singleton]; omega)] at hk
        exact absurd hk (by simp)
    rw [h0] at hk
    obtain rfl : t = k := by simpa using hk
    obtain rfl : h = H := by omega
    exact ⟨m_up_s, hs⟩
end
