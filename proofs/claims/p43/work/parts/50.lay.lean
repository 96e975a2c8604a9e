/-! MATH: a bale is laid into the loft, and goes -/
def m_put (lr : Nat → Int32) (p s : Nat) (v : Int32) : Nat → Int32 := fun q => if p ≤ q ∧ q < p + s then v else lr q
theorem m_put_i {lr : Nat → Int32} {p s q : Nat} {v : Int32} (h1 : p ≤ q) (h2 : q < p + s) : m_put lr p s v q = v := by unfold m_put; rw [if_pos ⟨h1, h2⟩]
theorem m_put_o {lr : Nat → Int32} {p s q : Nat} {v : Int32} (h : ¬ (p ≤ q ∧ q < p + s)) : m_put lr p s v q = lr q := by unfold m_put; rw [if_neg h]
theorem m_put_0 {lr : Nat → Int32} {p : Nat} {v : Int32} : m_put lr p 0 v = lr := by funext q; exact m_put_o (by omega)
theorem m_put_s {lr : Nat → Int32} {p i : Nat} {v : Int32} : q_up (m_put lr p i v) (p + i) v = m_put lr p (i + 1) v := by
  funext q
  rw [m_up_of]
  by_cases h : q = p + i
  · rw [if_pos h, m_put_i (by omega) (by omega)]
  · rw [if_neg h]
    by_cases h2 : p ≤ q ∧ q < p + i
    · rw [m_put_i h2.1 h2.2, m_put_i h2.1 (by omega)]
    · rw [m_put_o h2, m_put_o (by omega)]
theorem m_layL {m p s : Nat} {lo lr : Nat → Int32} {v : Int32} (h64 : m ≤ 64) (hm : lo 1 = nI m) (hps : p + s ≤ m) : ∀ (n i fu : Nat), i + n = s → n < fu → f_X5_lay_L2 lo v (nI p) (nI s) fu (m_put lr p i v) (nI i) = some (m_put lr p s v) := by
  intro n
  induction n with
  | zero =>
    intro i fu hi hfu
    obtain ⟨fu, rfl⟩ : ∃ z, fu = z + 1 := ⟨fu - 1, by omega⟩
    obtain rfl : i = s := by omega
    rw [f_X5_lay_L2, if_pos (nI_le (by omega) (by omega))]
  | succ n ih =>
    intro i fu hi hfu
    obtain ⟨fu, rfl⟩ : ∃ z, fu = z + 1 := ⟨fu - 1, by omega⟩
    rw [f_X5_lay_L2, if_neg (nI_ge (by omega) (by omega)), nI_add, if_neg (nI_pos (by omega)), hm, if_neg (nI_ge (by omega) (by omega)), if_neg (show ¬ (64 : Int32) ≤ nI (p + i) from nI_ge (b := 64) (by omega) (by decide)), q_ix_nI (by omega) (by decide), Option.bind_some, m_put_s, nI_1]
    exact ih (i + 1) fu (by omega) (by omega)
theorem m_lay {m p s : Nat} {lo lr : Nat → Int32} {v : Int32} (h64 : m ≤ 64) (hm : lo 1 = nI m) (hps : p + s ≤ m) : f_X5_lay lo lr v (nI p) (nI s) = some (q_up lo 2 (lo 2 + (if v = -1 then -1 else 1)), m_put lr p s v) := by
  unfold f_X5_lay
  have e := m_layL (lr := lr) (v := v) h64 hm hps s 0 4096 (by omega) (by omega)
  rw [m_put_0, show nI 0 = 0 from rfl] at e
  rw [e, Option.bind_some]
  by_cases h : v = -1
  · rw [if_neg (fun h2 => h2 h), if_pos h]
  · rw [if_pos h, if_neg h]
/-- one more bale in the loft -/
theorem m_Lf_in {m p s b : Nat} {lr sw sp ss : Nat → Int32} (h : m_Lf m lr sw sp ss) (hb : b < 128) (hw : ¬ sw b = 2) (hs : ss b = nI s) (hs1 : 1 ≤ s) (hps : p + s ≤ m) (he : ∀ j, j < s → lr (p + j) = -1) : m_Lf m (m_put lr p s (nI b)) (q_up sw b 2) (q_up sp b (nI p)) ss := by
  obtain ⟨h64, h1, h2⟩ := h
  have hem : ∀ q, p ≤ q → q < p + s → lr q = -1 := fun q a1 a2 => by
    have := he (q - p) (by omega)
    rw [← this]; congr 1; omega
  refine ⟨h64, fun c hc hcw => ?_, fun q hq => ?_⟩
  · by_cases hcb : c = b
    · subst hcb
      exact ⟨p, s, m_up_s, hs, hs1, hps, fun q a1 a2 => m_put_i a1 a2⟩
    · rw [m_up_n hcb] at hcw
      obtain ⟨p', s', b1, b2, b3, b4, b5⟩ := h1 c hc hcw
      refine ⟨p', s', by rw [m_up_n hcb]; exact b1, b2, b3, b4, fun q a1 a2 => ?_⟩
      have e := b5 q a1 a2
      rw [m_put_o (fun hh => m_nI_m1 (by omega) (e.symm.trans (hem q hh.1 hh.2)))]
      exact e
  · by_cases hh : p ≤ q ∧ q < p + s
    · exact Or.inr ⟨b, hb, m_up_s, m_put_i hh.1 hh.2, p, s, m_up_s, hs, hps, hh.1, hh.2⟩
    · rw [m_put_o hh]
      rcases h2 q hq with e | ⟨c, a1, a2, a3, p', s', a4, a5, a6, a7, a8⟩
      · exact Or.inl e
      · have hcb : c ≠ b := fun e => hw (by rw [← e]; exact a2)
        exact Or.inr ⟨c, a1, by rw [m_up_n hcb]; exact a2, a3, p', s', by rw [m_up_n hcb]; exact a4, a5, a6, a7, a8⟩
/-- one bale less -/
theorem m_Lf_out {m p s b : Nat} {x : Int32} {lr sw sp ss : Nat → Int32} (h : m_Lf m lr sw sp ss) (hb : b < 128) (hw : sw b = 2) (hp : sp b = nI p) (hs : ss b = nI s) (hps : p + s ≤ m) (hx : ¬ x = 2) : m_Lf m (m_put lr p s (-1)) (q_up sw b x) sp ss := by
  obtain ⟨h64, h1, h2⟩ := h
  obtain ⟨p2, s2, d1, d2, d3, d4, d5⟩ := h1 b (by omega) hw
  obtain rfl : p2 = p := (nI_eq (by omega) (by omega)).mp (d1.symm.trans hp)
  obtain rfl : s2 = s := (nI_eq (by omega) (by omega)).mp (d2.symm.trans hs)
  refine ⟨h64, fun c hc hcw => ?_, fun q hq => ?_⟩
  · by_cases hcb : c = b
    · subst hcb
      rw [m_up_s] at hcw
      exact absurd hcw hx
    · rw [m_up_n hcb] at hcw
      obtain ⟨p', s', b1, b2, b3, b4, b5⟩ := h1 c hc hcw
      refine ⟨p', s', b1, b2, b3, b4, fun q a1 a2 => ?_⟩
      have e := b5 q a1 a2
      rw [m_put_o (fun hh => hcb ((nI_eq (by omega) (by omega)).mp (e.symm.trans (d5 q hh.1 hh.2))))]
      exact e
  · by_cases hh : p2 ≤ q ∧ q < p2 + s2
    · exact Or.inl (m_put_i hh.1 hh.2)
    · rw [m_put_o hh]
      rcases h2 q hq with e | ⟨c, a1, a2, a3, p', s', a4, a5, a6, a7, a8⟩
      · exact Or.inl e
      · have hcb : c ≠ b := fun e => by
          subst e
          have e1 := (nI_eq (by omega) (by omega)).mp (d1.symm.trans a4)
          have e2 := (nI_eq (by omega) (by omega)).mp (d2.symm.trans a5)
          omega
        exact Or.inr ⟨c, a1, by rw [m_up_n hcb]; exact a2, a3, p', s', a4, a5, a6, a7, a8⟩
