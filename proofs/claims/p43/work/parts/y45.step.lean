/-! ONE TOLD STEP, on both sides -/
/-- both barns at rest, the class's rows in one -/
def z_RB (H m hf : Nat) (pn : m_Rr) (h : q_H) (s : Nat) (X : m_CB) : Prop := ∃ (hL : List Nat) (Y : m_SB) (ν : Nat → Nat) (hl ll : List Nat) (hkL : List (Option Nat)), m_R H m hf hL X.1 X.2.1 X.2.2.1 X.2.2.2.1 X.2.2.2.2.1 X.2.2.2.2.2.1 X.2.2.2.2.2.2.1 X.2.2.2.2.2.2.2.1 X.2.2.2.2.2.2.2.2.1 X.2.2.2.2.2.2.2.2.2.2.2.2.1 X.2.2.2.2.2.2.2.2.2.2.2.2.2.1 Y.2.2.2.2.1 Y.2.2.2.2.2.1 Y.2.2.2.2.2.2.1 Y.2.2.2.2.2.2.2.1 Y.2.2.2.2.2.2.2.2.1 Y.2.2.2.2.2.2.2.2.2.1 Y.2.2.2.2.2.2.2.2.2.2.1 Y.2.2.2.2.2.2.2.2.2.2.2 ∧ z_B h s ν H m hf hL pn X.1 X.2.1 X.2.2.1 X.2.2.2.1 X.2.2.2.2.1 X.2.2.2.2.2.1 X.2.2.2.2.2.2.1 X.2.2.2.2.2.2.2.2.2.2.2.2.1 hl ll hkL
/-- the orders os lie at i0 -/
def z_Ord (oc : Nat) (od : Nat → Option Nat) (nu : m_Rr) (i0 : Nat) (os : List (Nat × Int32)) : Prop := i0 + os.length ≤ oc ∧ ∀ j q, os[j]? = some q → od (i0 + j) = some q.1 ∧ nu (i0 + j) = q.2
/-- a told step of the class says what nine numbers say -/
def z_Tld (H oc : Nat) (od : Nat → Option Nat) (nu : m_Rr) (T1 : Nat → m_Rr) (K1 : Nat → Nat → Option Nat) (k : Nat) (w : Nat → Int32) : Prop :=
  ∃ a0 a1 a2 a3 a6 a8, (w 0 = nI a0 ∧ a0 ≤ 4) ∧ (w 1 = nI a1 ∧ a1 < H) ∧ (w 2 = nI a2 ∧ a2 < H) ∧ (w 3 = nI a3 ∧ a3 ≤ 3) ∧ (w 6 = nI a6 ∧ a6 ≤ 6) ∧ (w 8 = nI a8 ∧ a8 < H) ∧
  K1 k 0 = some (9 + a0) ∧ T1 k 1 = w 1 ∧ (a0 < 4 → T1 k 3 = w 3) ∧ (a0 = 1 ∨ a0 = 3 → T1 k 2 = w 2) ∧
  (a0 = 0 → ∃ i0, T1 k 4 = nI i0 ∧ T1 k 5 = nI (i0 + (z_sumO w).length) ∧ z_Ord oc od nu i0 (z_sumO w)) ∧
  ∃ i0, T1 k 6 = nI i0 ∧ T1 k 7 = nI (i0 + (z_tstO a6 w).length) ∧ z_Ord oc od nu i0 (z_tstO a6 w)
section ZONE
variable {h h' : q_H} {s v c : Nat} {H m hf ns oc : Nat} {pn nu mp : m_Rr} {od : Nat → Option Nat} {T1 : Nat → m_Rr} {K1 : Nat → Nat → Option Nat} {X : m_CB}
theorem z_sumO_len {w : Nat → Int32} : (z_sumO w).length < 300 := by
  unfold z_sumO
  split
  · show 1 < 300; decide
  · split
    · show 7 < 300; decide
    · show 3 < 300; decide
theorem z_tstO_len {a : Nat} {w : Nat → Int32} : (z_tstO a w).length < 300 := by
  unfold z_tstO
  split <;> simp
/-- a step is done: the law's and the class's -/
theorem z_perf {hL : List Nat} {Y : m_SB} {ν : Nat → Nat} {hl ll : List Nat} {hkL : List (Option Nat)} {σ : z_St} {y : Int32} {k i1 i2 L : Nat} {o1 o2 : Option Nat} (hP : m_Pl H m hf pn mp) (hoc : pn 5 = nI oc) (hoc4 : oc ≤ 400) (hk20 : k < 20) (hT : z_Tld H oc od nu T1 K1 k (q_I h v))
    (hR : m_R H m hf hL X.1 X.2.1 X.2.2.1 X.2.2.2.1 X.2.2.2.2.1 X.2.2.2.2.2.1 X.2.2.2.2.2.2.1 X.2.2.2.2.2.2.2.1 X.2.2.2.2.2.2.2.2.1 X.2.2.2.2.2.2.2.2.2.2.2.2.1 X.2.2.2.2.2.2.2.2.2.2.2.2.2.1 Y.2.2.2.2.1 Y.2.2.2.2.2.1 Y.2.2.2.2.2.2.1 Y.2.2.2.2.2.2.2.1 Y.2.2.2.2.2.2.2.2.1 Y.2.2.2.2.2.2.2.2.2.1 Y.2.2.2.2.2.2.2.2.2.2.1 Y.2.2.2.2.2.2.2.2.2.2.2)
    (hB : z_B h s ν H m hf hL pn X.1 X.2.1 X.2.2.1 X.2.2.2.1 X.2.2.2.2.1 X.2.2.2.2.2.1 X.2.2.2.2.2.2.1 X.2.2.2.2.2.2.2.2.2.2.2.2.1 hl ll hkL)
    (hc : q_R h s 2 = some c) (h1 : q_I h v 1 = nI i1) (ho1 : hkL[i1]? = some o1) (h2 : q_I h v 2 = nI i2) (ho2 : hkL[i2]? = some o2) (h3 : q_I h v 3 = nI L) (hL3 : L ≤ 3) (hσ : σ = z_copy (z_rp h) m (q_I h s 5) hl ll hkL (q_I h) (q_I h s 11))
    (hD : z_doneR h h' s v c hl ll hkL m i1 i2 L o1 o2 y σ) :
    ∃ ok X', m_pf pn nu od T1 K1 X k = some (ok, X') ∧ z_RB H m hf pn h' s X' ∧ y = (if ok = true then 1 else 0) ∧ X'.1 10 = X.1 10 ∧ (X'.1 12 = X.1 12 ∨ X'.1 12 = X.1 12 + 1) := by
  obtain ⟨a0, a1, a2, a3, a6, a8, ⟨w0, l0⟩, ⟨w1, l1⟩, ⟨w2, l2⟩, ⟨w3, l3⟩, ⟨w6, l6⟩, ⟨w8, l8⟩, t0, t1, t3, t2, tS, -⟩ := hT
  have h6 : H ≤ 6 := hR.2.2.2.2.2.1.1
  obtain rfl : a1 = i1 := (nI_eq (by omega) (by have := (List.getElem?_eq_some_iff.mp ho1).1; have := hB.2.1.2.2.2.2.2.1.1; omega)).mp (w1.symm.trans h1)
  obtain rfl : a2 = i2 := (nI_eq (by omega) (by have := (List.getElem?_eq_some_iff.mp ho2).1; have := hB.2.1.2.2.2.2.2.1.1; omega)).mp (w2.symm.trans h2)
  obtain rfl : a3 = L := (nI_eq (by omega) (by omega)).mp (w3.symm.trans h3)
  have t20 : q_t20 k = some () := by unfold q_t20; rw [if_pos (by omega)]
  have e0 : (q_I h v 0).toInt = a0 := by rw [w0]; exact z_nI_ti (by omega)
  rcases hD with ⟨d0, hD⟩ | ⟨d0, hD⟩ | ⟨d0, hD⟩ | ⟨d0, hD⟩ | ⟨d0, hD⟩
  · obtain rfl : a0 = 0 := by omega
    obtain ⟨i0, f1, f2, f3, f4⟩ := tS rfl
    obtain ⟨rk', sk', g1⟩ := z_reckon (nu := nu) (od := od) (rk := X.2.2.2.2.2.2.2.2.2.2.2.2.2.2.2.1) (sk := X.2.2.2.2.2.2.2.2.2.2.2.2.2.2.2.2) hoc hoc4 f3 f4 z_sumO_len (z_sum_run (v := v) hR hB w2 l2 ho2)
    obtain ⟨z, s1, s9, s2, s3⟩ := m_clip (z_sumV (q_I h) s v o2)
    rw [s3] at hD
    obtain ⟨ok, ν', hL', bn', ly', pl', sz', ag', rc', ld', lo', lr', li', nr', nd', hk', rw', ro', md', mq', mi', st', sh', sw', sp', ss', sr', sa', sd', hl', ll', hkL', y1, -, y3, -, -, y6, y7, y8, y9⟩ := z_B_make hP hR hB hc l1 s1 s9 hL3 hσ hD X.2.2.2.2.2.2.2.2.2.1 X.2.2.2.2.2.2.2.2.2.2.1 X.2.2.2.2.2.2.2.2.2.2.2.1 X.2.2.2.2.2.2.2.2.2.2.2.2.2.2.1 Y.1 Y.2.2.1 Y.2.2.2.1
    refine ⟨ok, (bn', ly', pl', sz', ag', rc', ld', lo', lr', li', nr', nd', hk', rw', ro', rk', sk'), ?_, ⟨hL', (md', Y.2.1, mq', mi', st', sh', sw', sp', ss', sr', sa', sd'), ν', hl', ll', hkL', y3, y8⟩, y9, y6, y7⟩
    unfold m_pf f_X3_perform
    rw [t20, Option.bind_some, t0]
    show ((f_X8_reckon pn nu X.1 X.2.2.2.1 X.2.2.2.2.1 X.2.2.2.2.2.2.2.1 X.2.2.2.2.2.2.2.2.2.2.2.2.1 X.2.2.2.2.2.2.2.2.2.2.2.2.2.2.2.1 X.2.2.2.2.2.2.2.2.2.2.2.2.2.2.2.2 od (T1 k 4) (T1 k 5)).bind _) = _
    rw [f1, f2, g1, Option.bind_some, s2, t1, w1, t3 (by decide), w3, y1, Option.bind_some]
  · obtain rfl : a0 = 1 := by omega
    obtain ⟨ok, ld', sd', y1, -, y3, -, y8, y9⟩ := z_B_tie hR hB l1 l2 (q_I h v 3) hD
    refine ⟨ok, (X.1, X.2.1, X.2.2.1, X.2.2.2.1, X.2.2.2.2.1, X.2.2.2.2.2.1, ld', X.2.2.2.2.2.2.2.1, X.2.2.2.2.2.2.2.2.1, X.2.2.2.2.2.2.2.2.2.1, X.2.2.2.2.2.2.2.2.2.2.1, X.2.2.2.2.2.2.2.2.2.2.2.1, X.2.2.2.2.2.2.2.2.2.2.2.2.1, X.2.2.2.2.2.2.2.2.2.2.2.2.2.1, X.2.2.2.2.2.2.2.2.2.2.2.2.2.2.1, X.2.2.2.2.2.2.2.2.2.2.2.2.2.2.2.1, X.2.2.2.2.2.2.2.2.2.2.2.2.2.2.2.2), ?_, ⟨hL, (Y.1, Y.2.1, Y.2.2.1, Y.2.2.2.1, Y.2.2.2.2.1, Y.2.2.2.2.2.1, Y.2.2.2.2.2.2.1, Y.2.2.2.2.2.2.2.1, Y.2.2.2.2.2.2.2.2.1, Y.2.2.2.2.2.2.2.2.2.1, Y.2.2.2.2.2.2.2.2.2.2.1, sd'), ν, hl, ll, hkL, y3, y8⟩, y9, rfl, Or.inl rfl⟩
    unfold m_pf f_X3_perform
    rw [t20, Option.bind_some, t0]
    show ((f_X2_tieRope X.2.2.2.2.2.1 X.2.2.2.2.2.2.1 X.2.2.2.2.2.2.2.2.2.2.2.2.1 (T1 k 1) (T1 k 3) (T1 k 2)).bind _) = _
    rw [t1, w1, t2 (Or.inl rfl), w2, t3 (by decide), y1, Option.bind_some]
  · obtain rfl : a0 = 2 := by omega
    obtain ⟨ok, ld', sd', y1, -, y3, y8, y9⟩ := z_B_untie hR hB l1 (q_I h v 3) hD
    refine ⟨ok, (X.1, X.2.1, X.2.2.1, X.2.2.2.1, X.2.2.2.2.1, X.2.2.2.2.2.1, ld', X.2.2.2.2.2.2.2.1, X.2.2.2.2.2.2.2.2.1, X.2.2.2.2.2.2.2.2.2.1, X.2.2.2.2.2.2.2.2.2.2.1, X.2.2.2.2.2.2.2.2.2.2.2.1, X.2.2.2.2.2.2.2.2.2.2.2.2.1, X.2.2.2.2.2.2.2.2.2.2.2.2.2.1, X.2.2.2.2.2.2.2.2.2.2.2.2.2.2.1, X.2.2.2.2.2.2.2.2.2.2.2.2.2.2.2.1, X.2.2.2.2.2.2.2.2.2.2.2.2.2.2.2.2), ?_, ⟨hL, (Y.1, Y.2.1, Y.2.2.1, Y.2.2.2.1, Y.2.2.2.2.1, Y.2.2.2.2.2.1, Y.2.2.2.2.2.2.1, Y.2.2.2.2.2.2.2.1, Y.2.2.2.2.2.2.2.2.1, Y.2.2.2.2.2.2.2.2.2.1, Y.2.2.2.2.2.2.2.2.2.2.1, sd'), ν, hl, ll, hkL, y3, y8⟩, y9, rfl, Or.inl rfl⟩
    unfold m_pf f_X3_perform
    rw [t20, Option.bind_some, t0]
    show ((f_X2_untieRope X.2.2.2.2.2.1 X.2.2.2.2.2.2.1 X.2.2.2.2.2.2.2.2.2.2.2.2.1 (T1 k 1) (T1 k 3)).bind _) = _
    rw [t1, w1, t3 (by decide), y1, Option.bind_some]
  · obtain rfl : a0 = 3 := by omega
    obtain ⟨ok, hk', sh', hkL', y1, -, y3, -, y8, y9⟩ := z_B_follow hR hB hc l1 l2 (q_I h v 3) hD
    refine ⟨ok, (X.1, X.2.1, X.2.2.1, X.2.2.2.1, X.2.2.2.2.1, X.2.2.2.2.2.1, X.2.2.2.2.2.2.1, X.2.2.2.2.2.2.2.1, X.2.2.2.2.2.2.2.2.1, X.2.2.2.2.2.2.2.2.2.1, X.2.2.2.2.2.2.2.2.2.2.1, X.2.2.2.2.2.2.2.2.2.2.2.1, hk', X.2.2.2.2.2.2.2.2.2.2.2.2.2.1, X.2.2.2.2.2.2.2.2.2.2.2.2.2.2.1, X.2.2.2.2.2.2.2.2.2.2.2.2.2.2.2.1, X.2.2.2.2.2.2.2.2.2.2.2.2.2.2.2.2), ?_, ⟨hL, (Y.1, Y.2.1, Y.2.2.1, Y.2.2.2.1, Y.2.2.2.2.1, sh', Y.2.2.2.2.2.2.1, Y.2.2.2.2.2.2.2.1, Y.2.2.2.2.2.2.2.2.1, Y.2.2.2.2.2.2.2.2.2.1, Y.2.2.2.2.2.2.2.2.2.2.1, Y.2.2.2.2.2.2.2.2.2.2.2), ν, hl, ll, hkL', y3, y8⟩, y9, rfl, Or.inl rfl⟩
    unfold m_pf f_X3_perform
    rw [t20, Option.bind_some, t0]
    show ((f_X2_followRope X.2.2.2.2.2.1 X.2.2.2.2.2.2.1 X.2.2.2.2.2.2.2.2.2.2.2.2.1 (T1 k 1) (T1 k 2) (T1 k 3)).bind _) = _
    rw [t1, w1, t2 (Or.inr rfl), w2, t3 (by decide), y1, Option.bind_some]
  · obtain rfl : a0 = 4 := by omega
    obtain ⟨ok, hk', sh', hkL', y1, -, y3, y8, y9⟩ := z_B_drop hR hB hc l1 ho1 hD
    refine ⟨ok, (X.1, X.2.1, X.2.2.1, X.2.2.2.1, X.2.2.2.2.1, X.2.2.2.2.2.1, X.2.2.2.2.2.2.1, X.2.2.2.2.2.2.2.1, X.2.2.2.2.2.2.2.2.1, X.2.2.2.2.2.2.2.2.2.1, X.2.2.2.2.2.2.2.2.2.2.1, X.2.2.2.2.2.2.2.2.2.2.2.1, hk', X.2.2.2.2.2.2.2.2.2.2.2.2.2.1, X.2.2.2.2.2.2.2.2.2.2.2.2.2.2.1, X.2.2.2.2.2.2.2.2.2.2.2.2.2.2.2.1, X.2.2.2.2.2.2.2.2.2.2.2.2.2.2.2.2), ?_, ⟨hL, (Y.1, Y.2.1, Y.2.2.1, Y.2.2.2.1, Y.2.2.2.2.1, sh', Y.2.2.2.2.2.2.1, Y.2.2.2.2.2.2.2.1, Y.2.2.2.2.2.2.2.2.1, Y.2.2.2.2.2.2.2.2.2.1, Y.2.2.2.2.2.2.2.2.2.2.1, Y.2.2.2.2.2.2.2.2.2.2.2), ν, hl, ll, hkL', y3, y8⟩, y9, rfl, Or.inl rfl⟩
    unfold m_pf f_X3_perform
    rw [t20, Option.bind_some, t0]
    show ((f_X2_dropBale X.2.2.2.2.2.2.2.2.2.2.2.2.1 (T1 k 1)).bind _) = _
    rw [t1, w1, y1, Option.bind_some]
end ZONE
