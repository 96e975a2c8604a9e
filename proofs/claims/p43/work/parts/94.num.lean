/-! MATH: numbers of a line; hooks and ropes in a line -/
def m_nr (lo hi v : Int32) : Int32 := if v < lo then 5 else if hi < v then 5 else 0
section
variable {tp mt tk ts tl tv kn mf mm hn : m_Rr} {z n : Nat} {tg : Nat → Option Nat} {V0 : m_V} {mq pd po pq pr : m_Rr} {H t : Nat} {qn qu rd md mr mp pc pw : m_Rr} {qd : Nat → Option Nat} {oc cs op s : Nat} {Q Q' : m_Rr → Prop} {W : m_Rr × m_Rr × m_Rr × m_Rr × m_Rr}
theorem m_nr0 {lo hi v : Int32} : m_nr lo hi v = 0 ↔ lo ≤ v ∧ v ≤ hi := by
  unfold m_nr
  by_cases h1 : v < lo
  · rw [if_pos h1]
    exact ⟨fun h => absurd h (by decide), fun h => absurd h.1 (Int32.not_le.mpr h1)⟩
  · rw [if_neg h1]
    by_cases h2 : hi < v
    · rw [if_pos h2]
      exact ⟨fun h => absurd h (by decide), fun h => absurd h.2 (Int32.not_le.mpr h2)⟩
    · rw [if_neg h2]
      exact ⟨fun _ => ⟨Int32.not_lt.mp h1, Int32.not_lt.mp h2⟩, fun _ => rfl⟩
theorem m_nr5 {lo hi v : Int32} (h : m_nr lo hi v ≠ 0) : m_nr lo hi v = 5 := by
  unfold m_nr at h ⊢
  by_cases h1 : v < lo
  · rw [if_pos h1]
  · rw [if_neg h1] at h ⊢
    by_cases h2 : hi < v
    · rw [if_pos h2]
    · rw [if_neg h2] at h; exact absurd rfl h
theorem m_inR {lo hi v : Int32} {i : Nat} (h : f_X15_numberAt mt mf mm (nI i) = some v) : f_X15_inRange mt mf mm (nI i) lo hi = some (m_nr lo hi v) := by
  unfold f_X15_inRange f_X15_isIn m_nr
  rw [h, Option.bind_some]
  by_cases h1 : v < lo
  · rw [if_pos h1, if_pos h1]; rfl
  · rw [if_neg h1, if_neg h1]
    by_cases h2 : hi < v
    · rw [if_pos h2, if_pos h2]; rfl
    · rw [if_neg h2, if_neg h2]; rfl
/-- the class reads a number -/
theorem m_numD (hF : m_TF tp mt z n tk tg ts tl tv kn mf mm) (h3 : rd 3 = nI t) (h4 : rd 4 ≠ 1) (ht : t < n) (hs : tg t = some 2) (lo hi : Int32) : ∃ v rd', f_X7_readNumber rd tk tv tg lo hi = some (v, rd') ∧ rd' 3 = nI (t + 1) ∧ rd' 4 ≠ 1 ∧ (rd 4 ≠ 0 → rd' 4 = rd 4 ∧ rd' 5 = rd 5) ∧ (rd 4 = 0 → m_nr lo hi (tv t) ≠ 0 → rd' 4 = 5 ∧ rd' 5 = nI t) ∧ (rd 4 = 0 → m_nr lo hi (tv t) = 0 → rd' 4 = 0 ∧ v = tv t) := by
  have n400 : n ≤ 400 := hF.2.2.1
  have g3 : q_up rd 3 (nI (t + 1)) 3 = nI (t + 1) := m_up_s
  have g4 : q_up rd 3 (nI (t + 1)) 4 = rd 4 := m_up_n (by decide)
  have g5 : q_up rd 3 (nI (t + 1)) 5 = rd 5 := m_up_n (by decide)
  have e : f_X7_readNumber rd tk tv tg lo hi = if tv t < lo then (f_X7_blame (q_up rd 3 (nI (t + 1))) 5 (nI t)).bind fun r5 => some (lo, r5) else if tv t ≤ hi then some (tv t, q_up rd 3 (nI (t + 1))) else (f_X7_blame (q_up rd 3 (nI (t + 1))) 5 (nI t)).bind fun r5 => some (lo, r5) := by
    unfold f_X7_readNumber
    rw [m_takeP hF h3 h4 (by omega) hs (by decide), if_pos rfl, Option.bind_some, if_pos (show ¬ q_bz true = 0 by decide)]
    dsimp only
    rw [g3, m_pre, m_tval hF (by omega), Option.bind_some]
  have bl : (f_X7_blame (q_up rd 3 (nI (t + 1))) 5 (nI t)).bind (fun r5 => some (lo, r5)) = some (lo, if rd 4 = 0 then q_up (q_up (q_up rd 3 (nI (t + 1))) 4 5) 5 (nI t) else q_up rd 3 (nI (t + 1))) := by
    unfold f_X7_blame
    rw [g4]
    by_cases h : rd 4 = 0
    · rw [if_neg (fun y => y h), if_pos h]; rfl
    · rw [if_pos h, if_neg h]; rfl
  rw [e, bl]
  by_cases hn0 : m_nr lo hi (tv t) = 0
  · obtain ⟨x1, x2⟩ := m_nr0.mp hn0
    rw [if_neg (Int32.not_lt.mpr x1), if_pos x2]
    exact ⟨_, _, rfl, g3, by rw [g4]; exact h4, fun _ => ⟨g4, g5⟩, fun _ hh => absurd hn0 hh, fun h0 _ => ⟨g4.trans h0, rfl⟩⟩
  · have : ∀ (a b : Option (Int32 × m_Rr)), (if tv t < lo then a else if tv t ≤ hi then b else a) = a := fun a b => by
      by_cases h1 : tv t < lo
      · rw [if_pos h1]
      · rw [if_neg h1]
        by_cases h2 : tv t ≤ hi
        · exact absurd (m_nr0.mpr ⟨Int32.not_lt.mp h1, h2⟩) hn0
        · rw [if_neg h2]
    rw [this]
    refine ⟨_, _, rfl, ?_, ?_, fun h0 => ?_, fun h0 _ => ?_, fun _ hh => absurd hh hn0⟩
    · by_cases h : rd 4 = 0
      · rw [if_pos h, m_up_n (by decide), m_up_n (by decide)]; exact g3
      · rw [if_neg h]; exact g3
    · by_cases h : rd 4 = 0
      · rw [if_pos h, m_up_n (by decide), m_up_s]; decide
      · rw [if_neg h, g4]; exact h4
    · rw [if_neg h0]; exact ⟨g4, g5⟩
    · rw [if_pos h0]
      exact ⟨(m_up_n (by decide)).trans m_up_s, m_up_s⟩
theorem m_numE {lo hi : Int32} (h : rd 4 = 1) : f_X7_readNumber rd tk tv tg lo hi = some (lo, rd) := by
  unfold f_X7_readNumber
  rw [m_takeE h (by decide) (by decide), Option.bind_some, if_neg (fun y => y rfl)]
theorem m_numF (hF : m_TF tp mt z n tk tg ts tl tv kn mf mm) (h3 : rd 3 = nI t) (h4 : rd 4 ≠ 1) (ht : t ≤ n) {x : Nat} (hs : tg t = some x) (hx : x ≠ 2) {lo hi : Int32} : f_X7_readNumber rd tk tv tg lo hi = some (lo, m_fl rd) := by
  unfold f_X7_readNumber
  rw [m_takeP hF h3 h4 ht hs (by decide), if_neg hx, Option.bind_some, if_neg (fun y => y rfl)]
theorem m_ropeE {x : Nat} (h : rd 4 = 1) (hx : x < 49) (hx1 : x ≠ 1) : f_X7_readRope rd tk tv tg x = some (0, rd) := by
  unfold f_X7_readRope
  rw [m_e49 hx, Option.bind_some, m_takeE h hx hx1, Option.bind_some]
  dsimp only
  rw [m_numE h]; rfl
/-- a number that tells something, on both sides -/
theorem m_St_num (hF : m_TF tp mt z n tk tg ts tl tv kn mf mm) {r lo hi : Int32} (hr1 : r ≠ 1) (F : Int32 → m_Rr × m_Rr × m_Rr × m_Rr × m_Rr) (h3 : rd 3 = nI t) (h4 : rd 4 ≠ 1) (ht : t < n) (hs : tg t = some 2)
    (hE : ∀ v ve, Q v → m_eo mt kn mf mm (q_up mr t r) (ve, W) t = some (m_nr lo hi (tv t), (ve, F (tv t)))) :
    ∃ v rd', f_X7_readNumber rd tk tv tg lo hi = some (v, rd') ∧ rd' 3 = nI (t + 1) ∧ rd' 4 ≠ 1 ∧ (m_St mt kn mf mm tg tv hn V0 W H rd mr pc pw op cs t Q → m_St mt kn mf mm tg tv hn V0 (F v) H rd' (q_up mr t r) pc pw op cs (t + 1) (fun x => Q x ∧ lo ≤ v ∧ v ≤ hi)) := by
  have n400 : n ≤ 400 := hF.2.2.1
  obtain ⟨v, rd', c1, c2, c3, c4, c5, c6⟩ := m_numD hF h3 h4 ht hs lo hi
  refine ⟨v, rd', c1, c2, c3, fun h => ?_⟩
  have cg : m_p2 mt kn mf mm (q_up mr t r) V0 t = m_p2 mt kn mf mm mr V0 t := m_p2_congr (by omega) (fun j hj => m_up_n (by omega))
  rcases h with ⟨b1, b2, j, V, b3, b4, b5⟩ | ⟨b1, ve, vpc, b3, b4, b5, b6⟩
  · obtain ⟨d1, d2⟩ := c4 b1
    exact Or.inl ⟨by rw [d1]; exact b1, by rw [d1]; exact b2, j, V, by rw [d1]; exact m_p2_err (cg.trans b3) b1, d2.trans b4, by omega⟩
  · have lk := hE vpc ve b6
    by_cases hx : m_nr lo hi (tv t) = 0
    · obtain ⟨d1, d2⟩ := c6 b1 hx
      rw [hx] at lk
      rw [d2]
      exact Or.inr ⟨d1, ve, vpc, m_p2_ok (cg.trans b3) lk, m_Hk_s hr1 b4, m_Pt_s b5 (fun j hj => rfl), b6, m_nr0.mp hx⟩
    · obtain ⟨d1, d2⟩ := c5 b1 hx
      rw [m_nr5 hx] at lk
      exact Or.inl ⟨by rw [d1]; decide, by rw [d1]; decide, t, _, by rw [d1]; exact m_p2_bad (cg.trans b3) lk (by decide), d2, by omega⟩
theorem m_eo9 (hF : m_TF tp mt z n tk tg ts tl tv kn mf mm) {ve : m_Rr} (ht : t < n) (hs : tg t = some 2) (hm : mq 4 = nI (s + 1)) (hs20 : s < 20) : m_eo mt kn mf mm (q_up mr t 9) (ve, mq, pd, po, pq, pr) t = some (m_nr 0 3 (tv t), (ve, mq, pd, po, pq, q_up pr s (tv t))) := by
  have n400 : n ≤ 400 := hF.2.2.1
  have q : q_ix (nI t) 401 = some t := q_ix_nI (by omega) (by decide)
  have nu := m_tnum hF ht hs
  unfold m_eo f_X15_errorOf f_X15_number
  rw [q, Option.bind_some, m_up_s, if_neg (by decide), if_neg (by decide), if_neg (by decide), if_neg (by decide), if_neg (by decide), if_neg (by decide), nu, Option.bind_some, Option.bind_some, m_up_s, if_neg (by decide), if_neg (by decide), if_neg (by decide)]
  dsimp only
  rw [hm, m_dn20 s hs20, q_ix_nI hs20 (by decide), Option.bind_some, m_inR nu]; rfl
/-- in a line: a hook of the step -/
theorem m_LM_hook (hF : m_TF tp mt z n tk tg ts tl tv kn mf mm) {r : Int32} (hr1 : r ≠ 1) (F : Int32 → m_Rr × m_Rr × m_Rr × m_Rr × m_Rr) (h : m_LM mt kn mf mm n tg tv hn V0 W H t qn rd md mr mp pc pw oc cs op Q)
    (hE : ∀ v ve, t < n → tg t = some 3 → m_Hk tg tv hn mr t H → Q v → m_eo mt kn mf mm (q_up mr t r) (ve, W) t = some (if m_ix (tv t) hn H 0 = H then 3 else 0, (q_up ve t (if m_ix (tv t) hn H 0 = H then -1 else nI (m_ix (tv t) hn H 0)), F (if m_ix (tv t) hn H 0 = H then -1 else nI (m_ix (tv t) hn H 0))))) :
    ∃ hv rd' ok md', f_X7_readHook qn rd hn tk tv tg = some (nI hv, rd') ∧ f_X15_eatAs md kn mr 40 r = some (ok, md', q_up mr t r) ∧ hv < 6 ∧ ((ok = false ∧ m_Bd n rd' md') ∨ (ok = true ∧ m_LM mt kn mf mm n tg tv hn V0 (F (nI hv)) H (t + 1) qn rd' md' (q_up mr t r) mp pc pw oc cs op (fun v => Q v ∧ hv < H))) := by
  have n400 : n ≤ 400 := hF.2.2.1
  obtain ⟨h1, h3, h9, h10, h0, hH, hq3, hq5, a1, a2, a3, a4, a5, hS⟩ := h
  have hn1 := m_St_n1 hS
  obtain ⟨s, s1, s2, s3, -, -, -⟩ := m_sg hF h1
  have ea : f_X15_eatAs md kn mr 40 r = some (if s = 3 then (true, q_up md 9 (nI (t + 1)), q_up mr t r) else (false, md, q_up mr t r)) := by
    unfold f_X15_eatAs
    rw [h9, q_ix_nI (show t < 401 by omega) (by decide), Option.bind_some, show (40 : Int32) = m_kd 3 from rfl, m_eatP h9 (by omega) s1 s3 (by decide)]
    by_cases e : s = 3
    · rw [if_pos e, if_pos e]; rfl
    · rw [if_neg e, if_neg e]; rfl
  rw [ea]
  by_cases e : s = 3
  · subst e
    have ht := m_lt hF h1 s2 (by decide)
    obtain ⟨hv, rd', c1, c2, c3, c4, c5⟩ := m_St_hookR (V0 := V0) (pc := pc) (pw := pw) (cs := cs) (op := op) hF (r := r) hr1 (W := W) (W' := W) F h3 hn1 ht s2 hH hq3 (fun v ve k q => hE v ve ht s2 k q)
    rw [if_pos rfl]
    exact ⟨_, _, _, _, c1, rfl, c2, Or.inr ⟨rfl, by omega, c3, m_up_s, (m_up_n (by decide)).trans h10, fun i i1 i2 => (m_up_n (by omega)).trans (h0 i (by omega) i2), hH, hq3, hq5, by omega, a2, by omega, a4, by omega, c5 hS⟩⟩
  · rw [if_neg e]
    exact ⟨0, _, _, _, m_hookF hF h3 hn1 h1 s2 e, rfl, by decide, Or.inl ⟨rfl, m_fl_4, t, h1, m_fl_5.trans h3, h9⟩⟩
/-- in a line: ROPE or ITS ROPES, and a number -/
theorem m_LM_num (hF : m_TF tp mt z n tk tg ts tl tv kn mf mm) (h : m_LM mt kn mf mm n tg tv hn V0 (mq, pd, po, pq, pr) H t qn rd md mr mp pc pw oc cs op Q) (hQ : ∀ v, Q v → mq 4 = nI (s + 1) ∧ s < 20) :
    ∃ v rd' ok md', f_X7_readNumber rd tk tv tg 0 3 = some (v, rd') ∧ f_X15_eatAs md kn mr 41 9 = some (ok, md', q_up mr t 9) ∧ ((ok = false ∧ m_Bd n rd' md') ∨ (ok = true ∧ m_LM mt kn mf mm n tg tv hn V0 (mq, pd, po, pq, q_up pr s v) H (t + 1) qn rd' md' (q_up mr t 9) mp pc pw oc cs op (fun x => Q x ∧ 0 ≤ v ∧ v ≤ 3))) := by
  have n400 : n ≤ 400 := hF.2.2.1
  obtain ⟨h1, h3, h9, h10, h0, hH, hq3, hq5, a1, a2, a3, a4, a5, hS⟩ := h
  have hn1 := m_St_n1 hS
  obtain ⟨s', s1, s2, s3, -, -, -⟩ := m_sg hF h1
  have ea : f_X15_eatAs md kn mr 41 9 = some (if s' = 2 then (true, q_up md 9 (nI (t + 1)), q_up mr t 9) else (false, md, q_up mr t 9)) := by
    unfold f_X15_eatAs
    rw [h9, q_ix_nI (show t < 401 by omega) (by decide), Option.bind_some, show (41 : Int32) = m_kd 2 from rfl, m_eatP h9 (by omega) s1 s3 (by decide)]
    by_cases e : s' = 2
    · rw [if_pos e, if_pos e]; rfl
    · rw [if_neg e, if_neg e]; rfl
  rw [ea]
  by_cases e : s' = 2
  · subst e
    have ht := m_lt hF h1 s2 (by decide)
    obtain ⟨v, rd', c1, c2, c3, c4⟩ := m_St_num (V0 := V0) (pc := pc) (pw := pw) (cs := cs) (op := op) (hn := hn) (H := H) (mr := mr) (Q := Q) hF (r := 9) (lo := 0) (hi := 3) (by decide) (W := (mq, pd, po, pq, pr)) (fun x => (mq, pd, po, pq, q_up pr s x)) h3 hn1 ht s2 (fun v ve q => m_eo9 hF ht s2 (hQ v q).1 (hQ v q).2)
    rw [if_pos rfl]
    exact ⟨_, _, _, _, c1, rfl, Or.inr ⟨rfl, by omega, c2, m_up_s, (m_up_n (by decide)).trans h10, fun i i1 i2 => (m_up_n (by omega)).trans (h0 i (by omega) i2), hH, hq3, hq5, by omega, a2, by omega, a4, by omega, c4 hS⟩⟩
  · rw [if_neg e]
    exact ⟨_, _, _, _, m_numF hF h3 hn1 h1 s2 e, rfl, Or.inl ⟨rfl, m_fl_4, t, h1, m_fl_5.trans h3, h9⟩⟩
end
