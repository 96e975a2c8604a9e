/-! MATH: names in sums and tests, on both sides -/
/-- how far the passes are; Q: the code as it will be -/
def m_St (mt kn mf mm : m_Rr) (tg : Nat → Option Nat) (tv hn : m_Rr) (V0 : m_V) (W : m_Rr × m_Rr × m_Rr × m_Rr × m_Rr) (H : Nat) (rd mr pc pw : m_Rr) (op cs t : Nat) (Q : m_Rr → Prop) : Prop :=
  (rd 4 ≠ 0 ∧ rd 4 ≠ 1 ∧ ∃ j V, m_p2 mt kn mf mm mr V0 t = some (rd 4, j, V) ∧ rd 5 = nI j ∧ j < t) ∨
  (rd 4 = 0 ∧ ∃ ve vpc, m_p2 mt kn mf mm mr V0 t = some (0, 0, (ve, W)) ∧ m_Hk tg tv hn mr t H ∧ m_Pt vpc pc pw ve op cs t ∧ Q vpc)
section
variable {tp mt tk ts tl tv kn mf mm hn : m_Rr} {z n : Nat} {tg : Nat → Option Nat} {V0 : m_V} {W : m_Rr × m_Rr × m_Rr × m_Rr × m_Rr} {Z : m_Z} {H k i0 a0 u t : Nat} {X : m_PX} {Y : m_PY}
theorem m_St_n1 {rd mr pc pw : m_Rr} {op cs : Nat} {Q : m_Rr → Prop} (h : m_St mt kn mf mm tg tv hn V0 W H rd mr pc pw op cs t Q) : rd 4 ≠ 1 := by
  rcases h with ⟨b1, b2, -⟩ | ⟨b1, -⟩
  · exact b2
  · rw [b1]; decide
theorem m_St_m {rd mr pc pw : m_Rr} {op cs : Nat} {Q Q' : m_Rr → Prop} (h : m_St mt kn mf mm tg tv hn V0 W H rd mr pc pw op cs t Q) (hQ : ∀ v, Q v → Q' v) : m_St mt kn mf mm tg tv hn V0 W H rd mr pc pw op cs t Q' := by
  rcases h with h | ⟨b1, ve, vpc, b3, b4, b5, b6⟩
  · exact Or.inl h
  · exact Or.inr ⟨b1, ve, vpc, b3, b4, b5, hQ _ b6⟩
theorem m_St_put {rd mr pc pw : m_Rr} {op cs : Nat} {Q Q' : m_Rr → Prop} {w : Int32} (h : m_St mt kn mf mm tg tv hn V0 W H rd mr pc pw op cs t Q) (hQ : ∀ v, Q v → Q' (q_up v cs w)) : m_St mt kn mf mm tg tv hn V0 W H rd mr (q_up pc cs w) pw op (cs + 1) t Q' := by
  rcases h with h | ⟨b1, ve, vpc, b3, b4, b5, b6⟩
  · exact Or.inl h
  · refine Or.inr ⟨b1, ve, q_up vpc cs w, b3, b4, ⟨fun o ho => ?_, b5.2.1, fun j hj hno => ?_⟩, hQ _ b6⟩
    · obtain ⟨j, x, x1, x2, x3, x4, x5⟩ := b5.1 o ho
      exact ⟨j, x, x1, by omega, (m_up_n (by omega)).trans x3, x4, (m_up_n (by omega)).trans x5⟩
    · by_cases e : j = cs
      · subst e; exact m_up_s.trans m_up_s.symm
      · exact (m_up_n e).trans ((b5.2.2 j (by omega) hno).trans (m_up_n e).symm)
/-- a name, the token t: the class finds the hook, the reference keeps the place -/
theorem m_St_name (hF : m_TF tp mt z n tk tg ts tl tv kn mf mm) {rd qn mr pc pw : m_Rr} {op cs : Nat} (h3 : rd 3 = nI t) (h4 : rd 4 ≠ 1) (ht : t < n) (hs : tg t = some 3) (hH : H ≤ 6) (hq : qn 3 = nI H) (hcs : cs < 2 ^ 20) (hr : ∀ i, t ≤ i → i ≤ n → mr i = 0) :
    ∃ hv rd', f_X7_readHook qn rd hn tk tv tg = some (nI hv, rd') ∧ hv < 6 ∧ rd' 3 = nI (t + 1) ∧ rd' 4 ≠ 1 ∧ ∀ Q Q', m_St mt kn mf mm tg tv hn V0 W H rd mr pc pw op cs t Q → (∀ v, hv < H → Q v → Q' (q_up v cs (nI hv))) → m_St mt kn mf mm tg tv hn V0 W H rd' (q_up mr t 5) (q_up pc cs (nI t)) (q_up pw op (nI cs)) (op + 1) (cs + 1) (t + 1) Q' := by
  have n400 : n ≤ 400 := hF.2.2.1
  obtain ⟨hv, rd', c1, c2, c3, c4, c5, c6, c7⟩ := m_hookP (mr := mr) hF h3 h4 ht hs hH hq
  refine ⟨hv, rd', c1, c2, c3, c4, fun Q Q' h hQ => ?_⟩
  have cg : m_p2 mt kn mf mm (q_up mr t 5) V0 t = m_p2 mt kn mf mm mr V0 t := m_p2_congr (by omega) (fun j hj => m_up_n (by omega))
  rcases h with ⟨b1, b2, j, V, b3, b4, b5⟩ | ⟨b1, ve, vpc, b3, b4, b5, b6⟩
  · obtain ⟨d1, d2⟩ := c5 b1
    exact Or.inl ⟨by rw [d1]; exact b1, by rw [d1]; exact b2, j, V, by rw [d1]; exact m_p2_err (cg.trans b3) b1, d2.trans b4, by omega⟩
  · have lk := m_lookP (V := (ve, W)) hF b4 ht hs
    by_cases hx : m_ix (tv t) hn H 0 = H
    · obtain ⟨d1, d2⟩ := c6 b1 hx
      rw [if_pos hx] at lk
      exact Or.inl ⟨by rw [d1]; decide, by rw [d1]; decide, t, _, by rw [d1]; exact m_p2_bad (cg.trans b3) lk (by decide), d2, by omega⟩
    · obtain ⟨d1, d2, d3⟩ := c7 b1 hx
      rw [if_neg hx, if_neg hx, ← d2] at lk
      refine Or.inr ⟨d1, q_up ve t (nI hv), q_up vpc cs (nI hv), m_p2_ok (cg.trans b3) lk, ⟨b4.1, ?_, ?_⟩, ⟨fun o ho => ?_, fun o o' h1 h2 => ?_, fun j hj hno => ?_⟩, hQ _ d3 b6⟩
      · rw [m_hl_s, if_neg (by rw [m_up_s]; decide), m_hl_congr (fun j hj => m_up_n (by omega))]; exact b4.2.1
      · rw [m_hl_s, if_neg (by rw [m_up_s]; decide), m_hl_congr (fun j hj => m_up_n (by omega))]; exact b4.2.2
      · by_cases e : o = op
        · subst e
          exact ⟨cs, t, m_up_s, by omega, m_up_s, by omega, m_up_s.trans m_up_s.symm⟩
        · obtain ⟨j, x, x1, x2, x3, x4, x5⟩ := b5.1 o (by omega)
          exact ⟨j, x, (m_up_n e).trans x1, by omega, (m_up_n (by omega)).trans x3, by omega, (m_up_n (by omega)).trans (x5.trans (m_up_n (by omega)).symm)⟩
      · by_cases e : o' = op
        · subst e
          obtain ⟨y, x, x1, x2, -⟩ := b5.1 o h1
          rw [m_up_s, m_up_n (by omega), x1]
          exact fun hh => absurd ((nI_eq (by omega) (by omega)).mp hh) (by omega)
        · rw [m_up_n e, m_up_n (show o ≠ op by omega)]
          exact b5.2.1 o o' h1 (by omega)
      · by_cases e : j = cs
        · subst e
          exact absurd m_up_s (hno op (by omega))
        · rw [m_up_n e, m_up_n e]
          exact b5.2.2 j (by omega) (fun o ho => by
            have := hno o (by omega)
            rwa [m_up_n (by omega)] at this)
end
