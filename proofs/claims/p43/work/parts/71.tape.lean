/-! MATH: the tape, on both sides (the rows of bytes began as rows of kit/laws) -/
theorem m_byte_low (x : Int32) : (x &&& 255).toInt8 = x.toInt8 := by
  apply Int8.toBitVec_inj.1
  apply BitVec.eq_of_getLsbD_eq
  intro i hi
  have h2 : (255 : Int32).toBitVec.getLsbD i = true := by
    have : ∀ j : Fin 8, (255 : Int32).toBitVec.getLsbD j.val = true := by decide +kernel
    exact this ⟨i, hi⟩
  have h4 : (x &&& 255).toBitVec.getLsbD i = x.toBitVec.getLsbD i := by
    show (x.toBitVec &&& (255 : Int32).toBitVec).getLsbD i = _
    rw [BitVec.getLsbD_and, h2, Bool.and_true]
  have h3 : i < 32 := by omega
  first
    | (show (((x &&& 255).toBitVec).signExtend 8).getLsbD i = (x.toBitVec.signExtend 8).getLsbD i; rw [BitVec.getLsbD_signExtend, BitVec.getLsbD_signExtend, if_pos h3, if_pos h3, h4])
    | (show (((x &&& 255).toBitVec).setWidth 8).getLsbD i = (x.toBitVec.setWidth 8).getLsbD i; rw [BitVec.getLsbD_setWidth, BitVec.getLsbD_setWidth, h4])
    | (simp [hi, h3, h4]; done)
theorem m_byte_of {x : Int32} (h1 : -128 ≤ x.toInt) (h2 : x.toInt < 128) : x.toInt8.toInt32 = x := by
  apply Int32.toInt_inj.1
  rw [Int8.toInt_toInt32, Int32.toInt_toInt8, Int.bmod_eq_of_le (by omega) (by omega)]
theorem m_byte_rng (x : Int32) : -128 ≤ x.toInt8.toInt32.toInt ∧ x.toInt8.toInt32.toInt < 128 := by
  rw [Int8.toInt_toInt32]
  have h1 := Int8.le_toInt x.toInt8
  have h2 := Int8.toInt_lt x.toInt8
  omega
theorem m_byte_2 (x : Int32) : x.toInt8.toInt32.toInt8.toInt32 = x.toInt8.toInt32 := m_byte_of (m_byte_rng x).1 (m_byte_rng x).2
/-- the byte of a place, as each side keeps it -/
def m_By (tp mt : m_Rr) : Prop := ∀ j, j < 2000 → tp j = (mt j).toInt8.toInt32 ∧ ∃ b, b < 256 ∧ mt j = nI b
def m_Tp (hb tp md mt : m_Rr) : Prop := (∃ z, z ≤ 2000 ∧ hb 7 = nI z ∧ md 2 = nI z) ∧ m_By tp mt ∧ hb 8 = md 3
/-- v bytes more, from z on -/
def m_ru (f : m_Rr) (g : Nat → Int32) (z v : Nat) : m_Rr := fun j => if z ≤ j ∧ j < z + v then g (j - z) else f j
theorem m_ru_0 {f : m_Rr} {g : Nat → Int32} {z : Nat} : m_ru f g z 0 = f := by funext j; unfold m_ru; exact if_neg (by omega)
theorem m_ru_s {f : m_Rr} {g : Nat → Int32} {z v : Nat} : q_up (m_ru f g z v) (z + v) (g v) = m_ru f g z (v + 1) := by
  funext j
  rw [m_up_of]
  unfold m_ru
  by_cases e : j = z + v
  · subst e; rw [if_pos rfl, if_pos (by omega), show z + v - z = v by omega]
  · rw [if_neg e]
    by_cases h : z ≤ j ∧ j < z + v
    · rw [if_pos h, if_pos (by omega)]
    · rw [if_neg h, if_neg (by omega)]
theorem m_By_ru {tp mt : m_Rr} {y : Nat → Int32} {z v : Nat} (h : m_By tp mt) : m_By (m_ru tp (fun v => (y v).toInt8.toInt32.toInt8.toInt32) z v) (m_ru mt (fun v => y v &&& 255) z v) := by
  intro j hj
  unfold m_ru
  by_cases e : z ≤ j ∧ j < z + v
  · rw [if_pos e, if_pos e]
    obtain ⟨b, b1, b2⟩ := pk_andE (y (j - z)) (m := 255) 8 (by decide)
    exact ⟨by show (y (j - z)).toInt8.toInt32.toInt8.toInt32 = (y (j - z) &&& 255).toInt8.toInt32; rw [m_byte_2, m_byte_low], b, b1, b2⟩
  · rw [if_neg e, if_neg e]; exact h j hj
/-- the v-th byte of five numbers -/
def m_yb (X : Nat → Int32) (v : Nat) : Int32 := X (v / 4) >>> (nI (24 - 8 * (v % 4)) &&& 31)
theorem m_app1 {hb tp : m_Rr} {X : Nat → Int32} {z i r fu : Nat} (hr : r < 4) (hz : z + (4 * i + r) < 2000) (h7 : hb 7 = nI (z + (4 * i + r))) : f_X12_append_L2 (X i) (fu + 1) hb (m_ru tp (fun v => (m_yb X v).toInt8.toInt32.toInt8.toInt32) z (4 * i + r)) (nI (24 - 8 * r)) = f_X12_append_L2 (X i) fu (q_up hb 7 (nI (z + (4 * i + (r + 1))))) (m_ru tp (fun v => (m_yb X v).toInt8.toInt32.toInt8.toInt32) z (4 * i + (r + 1))) (nI (24 - 8 * r) + (-8)) := by
  have e : m_yb X (4 * i + r) = X i >>> (nI (24 - 8 * r) &&& 31) := by unfold m_yb; rw [show (4 * i + r) / 4 = i by omega, show (4 * i + r) % 4 = r by omega]
  have e2 := m_ru_s (f := tp) (g := fun v => (m_yb X v).toInt8.toInt32.toInt8.toInt32) (z := z) (v := 4 * i + r)
  rw [e] at e2
  rw [f_X12_append_L2, if_neg (nI_pos (by omega)), h7, if_neg (nI_pos (by omega)), if_neg (show ¬ (2000 : Int32) ≤ nI (z + (4 * i + r)) from nI_ge (b := 2000) hz (by decide)), q_ix_nI hz (by decide), Option.bind_some, nI_1, e2]
  rfl
theorem m_app {hb tp : m_Rr} {X : Nat → Int32} {z i : Nat} (hz : z + (4 * i + 4) ≤ 2000) (h7 : hb 7 = nI (z + 4 * i)) : ∃ hb', f_X12_append hb (m_ru tp (fun v => (m_yb X v).toInt8.toInt32.toInt8.toInt32) z (4 * i)) (X i) = some (hb', m_ru tp (fun v => (m_yb X v).toInt8.toInt32.toInt8.toInt32) z (4 * (i + 1))) ∧ hb' 7 = nI (z + 4 * (i + 1)) ∧ ∀ j, j ≠ 7 → hb' j = hb j := by
  refine ⟨q_up (q_up (q_up (q_up hb 7 (nI (z + (4 * i + 1)))) 7 (nI (z + (4 * i + 2)))) 7 (nI (z + (4 * i + 3)))) 7 (nI (z + (4 * i + 4))), ?_, m_up_s, fun j hj => by rw [m_up_n hj, m_up_n hj, m_up_n hj, m_up_n hj]⟩
  have a0 := m_app1 (hb := hb) (tp := tp) (X := X) (z := z) (i := i) (r := 0) (fu := 4095) (by omega) (by omega) h7
  have a1 := m_app1 (hb := q_up hb 7 (nI (z + (4 * i + 1)))) (tp := tp) (X := X) (z := z) (i := i) (r := 1) (fu := 4094) (by omega) (by omega) m_up_s
  have a2 := m_app1 (hb := q_up (q_up hb 7 (nI (z + (4 * i + 1)))) 7 (nI (z + (4 * i + 2)))) (tp := tp) (X := X) (z := z) (i := i) (r := 2) (fu := 4093) (by omega) (by omega) m_up_s
  have a3 := m_app1 (hb := q_up (q_up (q_up hb 7 (nI (z + (4 * i + 1)))) 7 (nI (z + (4 * i + 2)))) 7 (nI (z + (4 * i + 3)))) (tp := tp) (X := X) (z := z) (i := i) (r := 3) (fu := 4092) (by omega) (by omega) m_up_s
  unfold f_X12_append
  rw [show (24 : Int32) = nI (24 - 8 * 0) from rfl]
  have b0 : nI (24 - 8 * 0) + (-8) = nI (24 - 8 * 1) := rfl
  have b1 : nI (24 - 8 * 1) + (-8) = nI (24 - 8 * 2) := rfl
  have b2 : nI (24 - 8 * 2) + (-8) = nI (24 - 8 * 3) := rfl
  rw [b0] at a0
  rw [b1] at a1
  rw [b2] at a2
  have a0' : f_X12_append_L2 (X i) 4096 hb (m_ru tp (fun v => (m_yb X v).toInt8.toInt32.toInt8.toInt32) z (4 * i)) (nI (24 - 8 * 0)) = _ := a0
  rw [a0', a1, a2, a3, show (4092 : Nat) = 4091 + 1 from rfl, f_X12_append_L2, if_pos (by decide)]
  rfl
theorem m_feedL {md mt ol : m_Rr} {X : Nat → Int32} {z : Nat} (hz : z + 20 ≤ 2000) (hmd : md 2 = nI z) (hol : ∀ i, i < 5 → ol i = X i) : ∀ (n v fu : Nat), v + n = 20 → n < fu → f_X15_feed_L36 md ol fu (m_ru mt (fun v => m_yb X v &&& 255) z v) (nI v) = some (m_ru mt (fun v => m_yb X v &&& 255) z 20) := by
  intro n
  induction n with
  | zero =>
    intro v fu hv hfu
    obtain ⟨fu, rfl⟩ : ∃ z, fu = z + 1 := ⟨fu - 1, by omega⟩
    obtain rfl : v = 20 := by omega
    rw [f_X15_feed_L36, if_pos (show (20 : Int32) ≤ nI 20 from nI_le (Nat.le_refl _) (by decide))]
  | succ n ih =>
    intro v fu hv hfu
    obtain ⟨fu, rfl⟩ : ∃ z, fu = z + 1 := ⟨fu - 1, by omega⟩
    have e2 := m_ru_s (f := mt) (g := fun v => m_yb X v &&& 255) (z := z) (v := v)
    have e3 : nI v / (4 : Int32) = nI (v / 4) := pk_div (d := 4) (by omega) (by decide) (by decide)
    have e4 : nI v - nI v / (4 : Int32) * (4 : Int32) = nI (v % 4) := pk_rem (d := 4) (by omega) (by decide) (by decide)
    have e5 : (24 : Int32) - (8 : Int32) * nI (v % 4) = nI (24 - 8 * (v % 4)) := by
      rw [show (8 : Int32) = nI 8 from rfl, pk_mul, show (24 : Int32) = nI 24 from rfl, m_subI (by omega)]
    rw [f_X15_feed_L36, if_neg (show ¬ (20 : Int32) ≤ nI v from nI_ge (b := 20) (by omega) (by decide)), e4, e3, q_ix_nI (by omega) (by decide), Option.bind_some, hmd, nI_add, q_ix_nI (by omega) (by decide), Option.bind_some, hol _ (by omega), e5, nI_1]
    have e6 : X (v / 4) >>> (nI (24 - 8 * (v % 4)) &&& 31) = m_yb X v := rfl
    rw [e6, e2]
    exact ih (v + 1) fu (by omega) (by omega)
theorem m_q_feed {hb tp md mt : m_Rr} (hT : m_Tp hb tp md mt) (x1 x2 x3 x4 x5 : Int32) : ∃ r hb' tp' b md' mt', f_X12_feed hb tp x1 x2 x3 x4 x5 = some (r, hb', tp') ∧ f_X15_feed md mt x1 x2 x3 x4 x5 = some (b, md', mt') ∧ m_an [m_sIS] r b (md' 0) ∧ m_Tp hb' tp' md' mt' ∧ (∀ j, j ≠ 0 → j ≠ 2 → md' j = md j) ∧ (∀ j, j ≠ 7 → hb' j = hb j) := by
  obtain ⟨⟨z, z1, z2, z3⟩, hB, h8⟩ := hT
  by_cases hz : z ≤ 1980
  · obtain ⟨X, hX⟩ : ∃ X : Nat → Int32, X = fun i => if i = 0 then x1 else if i = 1 then x2 else if i = 2 then x3 else if i = 3 then x4 else x5 := ⟨_, rfl⟩
    have X0 : X 0 = x1 := by rw [hX]; rfl
    have X1 : X 1 = x2 := by rw [hX]; rfl
    have X2 : X 2 = x3 := by rw [hX]; rfl
    have X3 : X 3 = x4 := by rw [hX]; rfl
    have X4 : X 4 = x5 := by rw [hX]; rfl
    obtain ⟨h1, a1, b1, c1⟩ := m_app (hb := hb) (tp := tp) (X := X) (z := z) (i := 0) (by omega) z2
    obtain ⟨h2, a2, b2, c2⟩ := m_app (hb := h1) (tp := tp) (X := X) (z := z) (i := 1) (by omega) b1
    obtain ⟨h3, a3, b3, c3⟩ := m_app (hb := h2) (tp := tp) (X := X) (z := z) (i := 2) (by omega) b2
    obtain ⟨h4, a4, b4, c4⟩ := m_app (hb := h3) (tp := tp) (X := X) (z := z) (i := 3) (by omega) b3
    obtain ⟨h5, a5, b5, c5⟩ := m_app (hb := h4) (tp := tp) (X := X) (z := z) (i := 4) (by omega) b4
    rw [X0, Nat.mul_zero, m_ru_0] at a1
    rw [X1] at a2
    rw [X2] at a3
    rw [X3] at a4
    rw [X4] at a5
    have hmd2 : q_up md 0 0 2 = nI z := (m_up_n (by decide)).trans z3
    refine ⟨.inl (h5 7), h5, m_ru tp (fun v => (m_yb X v).toInt8.toInt32.toInt8.toInt32) z 20, nI (z + 20), q_up (q_up md 0 0) 2 (nI (z + 20)), m_ru mt (fun v => m_yb X v &&& 255) z 20, ?_, ?_, ⟨(m_up_n (by decide)).trans m_up_s, b5⟩, ⟨⟨z + 20, by omega, b5, m_up_s⟩, m_By_ru hB, ?_⟩, fun j h0 h2 => (m_up_n h2).trans (m_up_n h0), fun j hj => (c5 j hj).trans ((c4 j hj).trans ((c3 j hj).trans ((c2 j hj).trans (c1 j hj))))⟩
    · unfold f_X12_feed
      rw [z2, if_pos (show nI z ≤ (1980 : Int32) from nI_le (b := 1980) hz (by decide)), a1, Option.bind_some]
      dsimp only
      rw [a2, Option.bind_some]
      dsimp only
      rw [a3, Option.bind_some]
      dsimp only
      rw [a4, Option.bind_some]
      dsimp only
      rw [a5, Option.bind_some]
    · unfold f_X15_feed
      have e := m_feedL (md := q_up md 0 0) (mt := mt) (ol := q_up (q_up (q_up (q_up (q_up (fun _ => 0) 0 x1) 1 x2) 2 x3) 3 x4) 4 x5) (X := X) (z := z) (by omega) hmd2 (fun i hi => by
        have : i = 0 ∨ i = 1 ∨ i = 2 ∨ i = 3 ∨ i = 4 := by omega
        rcases this with rfl | rfl | rfl | rfl | rfl
        · rw [X0]; rfl
        · rw [X1]; rfl
        · rw [X2]; rfl
        · rw [X3]; rfl
        · rw [X4]; rfl) 20 0 4096 (by omega) (by omega)
      rw [m_ru_0] at e
      rw [hmd2, if_pos (show nI z ≤ (1980 : Int32) from nI_le (b := 1980) hz (by decide)), show q_ix (0 : Int32) 5 = some 0 from q_ix_nI (j := 0) (by decide) (by decide), Option.bind_some, show q_ix (1 : Int32) 5 = some 1 from q_ix_nI (j := 1) (by decide) (by decide), Option.bind_some, show q_ix (2 : Int32) 5 = some 2 from q_ix_nI (j := 2) (by decide) (by decide), Option.bind_some, show q_ix (3 : Int32) 5 = some 3 from q_ix_nI (j := 3) (by decide) (by decide), Option.bind_some, show q_ix (4 : Int32) 5 = some 4 from q_ix_nI (j := 4) (by decide) (by decide), Option.bind_some, show (0 : Int32) = nI 0 from rfl]
      rw [show (fun (_ : Nat) => nI 0) = (fun _ => (0 : Int32)) from rfl, show q_up md 0 (nI 0) = q_up md 0 0 from rfl, e, Option.bind_some, show (20 : Int32) = nI 20 from rfl, nI_add, m_up_s]
    · rw [c5 8 (by decide), c4 8 (by decide), c3 8 (by decide), c2 8 (by decide), c1 8 (by decide), m_up_n (by decide), m_up_n (by decide)]; exact h8
  · refine ⟨.inr m_sIS, hb, tp, 0, q_up (q_up md 0 0) 0 1, mt, ?_, ?_, ⟨0, rfl, by rw [m_up_s]; rfl⟩, ⟨⟨z, z1, z2, ((m_up_n (by decide)).trans (m_up_n (by decide))).trans z3⟩, hB, h8.trans ((m_up_n (by decide)).trans (m_up_n (by decide))).symm⟩, fun j h0 _ => (m_up_n h0).trans (m_up_n h0), fun _ _ => rfl⟩
    · unfold f_X12_feed
      rw [z2, if_neg (show ¬ nI z ≤ (1980 : Int32) from nI_ge (a := 1980) (by omega) (by omega))]
    · unfold f_X15_feed
      rw [show q_up md 0 0 2 = nI z from (m_up_n (by decide)).trans z3, if_neg (show ¬ nI z ≤ (1980 : Int32) from nI_ge (a := 1980) (by omega) (by omega))]; rfl
theorem m_q_trim {hb tp md mt : m_Rr} (hT : m_Tp hb tp md mt) (x : Int32) : ∃ r hb' b md', f_X12_trim hb x = some (r, hb') ∧ f_X15_trim md x = some (b, md') ∧ m_an [m_sIA] r b (md' 0) ∧ m_Tp hb' tp md' mt ∧ (∀ j, j ≠ 0 → j ≠ 2 → md' j = md j) ∧ (∀ j, j ≠ 7 → hb' j = hb j) := by
  obtain ⟨⟨z, z1, z2, z3⟩, hB, h8⟩ := hT
  have hmd2 : q_up md 0 0 2 = nI z := (m_up_n (by decide)).trans z3
  have bad : f_X12_trim hb x = some (.inr m_sIA, hb) → f_X15_isIn x 0 (nI z) = some false → ∃ r hb' b md', f_X12_trim hb x = some (r, hb') ∧ f_X15_trim md x = some (b, md') ∧ m_an [m_sIA] r b (md' 0) ∧ m_Tp hb' tp md' mt ∧ (∀ j, j ≠ 0 → j ≠ 2 → md' j = md j) ∧ (∀ j, j ≠ 7 → hb' j = hb j) := fun e1 e2 => by
    refine ⟨.inr m_sIA, hb, 0, q_up (q_up md 0 0) 0 1, e1, ?_, ⟨0, rfl, by rw [m_up_s]; rfl⟩, ⟨⟨z, z1, z2, ((m_up_n (by decide)).trans (m_up_n (by decide))).trans z3⟩, hB, h8.trans ((m_up_n (by decide)).trans (m_up_n (by decide))).symm⟩, fun j h0 _ => (m_up_n h0).trans (m_up_n h0), fun _ _ => rfl⟩
    unfold f_X15_trim
    rw [hmd2, e2]; rfl
  by_cases hx : x < 0
  · refine bad ?_ ?_
    · unfold f_X12_trim; rw [if_pos hx]
    · unfold f_X15_isIn; rw [if_pos hx]
  · by_cases hx2 : x ≤ nI z
    · obtain ⟨n, n1, rfl⟩ := nI_of hx
      have hn : n ≤ z := by
        rcases Nat.lt_or_ge z n with h | h
        · exact absurd hx2 (nI_ge h n1)
        · exact h
      refine ⟨.inl (nI n), q_up hb 7 (nI n), nI n, q_up (q_up md 0 0) 2 (nI n), ?_, ?_, ⟨(m_up_n (by decide)).trans m_up_s, rfl⟩, ⟨⟨n, by omega, m_up_s, m_up_s⟩, hB, ?_⟩, fun j h0 h2 => (m_up_n h2).trans (m_up_n h0), fun j hj => m_up_n hj⟩
      · unfold f_X12_trim; rw [if_neg hx, z2, if_pos hx2]
      · unfold f_X15_trim
        have e : f_X15_isIn (nI n) 0 (nI z) = some true := by unfold f_X15_isIn; rw [if_neg hx, if_neg (Int32.not_lt.mpr hx2)]
        rw [hmd2, e, Option.bind_some, if_pos (by decide)]
      · rw [m_up_n (by decide), m_up_n (by decide), m_up_n (by decide)]; exact h8
    · refine bad ?_ ?_
      · unfold f_X12_trim; rw [if_neg hx, z2, if_neg hx2]
      · unfold f_X15_isIn; rw [if_neg hx, if_pos (Int32.not_le.mp hx2)]
