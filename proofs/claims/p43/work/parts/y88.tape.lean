/-! THE TEXT FED: five numbers hold twenty signs; the tape then holds the text -/
theorem ta_sb (a c : BitVec 32) (hc : ∀ i, 8 ≤ i → c.getLsbD i = false) (i : Nat) : (i < 8 → (a <<< 8 ||| c).getLsbD i = c.getLsbD i) ∧ (8 ≤ i → i < 32 → (a <<< 8 ||| c).getLsbD i = a.getLsbD (i - 8)) := by
  rw [BitVec.getLsbD_or, BitVec.getLsbD_shiftLeft]
  refine ⟨fun h => ?_, fun h1 h2 => ?_⟩
  · rw [decide_eq_true h, Bool.not_true, Bool.and_false, Bool.false_and, Bool.false_or]
  · rw [decide_eq_true h2, decide_eq_false (show ¬ i < 8 by omega), Bool.not_false, Bool.true_and, Bool.true_and, hc i h1, Bool.or_false]
theorem ta_cb {b : Nat} (hb : b < 128) : ∀ i, 8 ≤ i → (nI b).toBitVec.getLsbD i = false := fun i hi => by
  show (BitVec.ofNat 32 b).getLsbD i = false
  rw [BitVec.getLsbD_ofNat, Nat.testBit_lt_two_pow (Nat.lt_of_lt_of_le hb (Nat.le_trans (show 128 ≤ 2 ^ 8 by decide) (Nat.pow_le_pow_right (by decide) hi))), Bool.and_false]
theorem ta_ob (o c : Int32) : (o <<< ((8 : Int32) &&& 31) ||| c).toBitVec = o.toBitVec <<< 8 ||| c.toBitVec := by
  show o.toBitVec <<< (((8 : Int32) &&& 31).toBitVec.smod 32).toNat ||| c.toBitVec = _
  rw [show (((8 : Int32) &&& 31).toBitVec.smod 32).toNat = 8 from by decide +kernel]
/-- one of the five numbers, with m more signs put in -/
def ta_n (o : Int32) (C : Nat → Int32) (i : Nat) : Nat → Int32
  | 0 => o
  | m + 1 => ta_n o C i m <<< ((8 : Int32) &&& 31) ||| C (4 * i + m)
def ta_C (C : Nat → Int32) : Prop := ∀ v, ∃ b, C v = nI b ∧ b < 128
theorem ta_bit {o : Int32} {C : Nat → Int32} (hC : ta_C C) {i r : Nat} (hr : r < 4) (j : Nat) (hj : j < 8) : (ta_n o C i 4).toBitVec.getLsbD (24 - 8 * r + j) = (C (4 * i + r)).toBitVec.getLsbD j := by
  have st := fun (a : Int32) (m : Nat) (t : Nat) => ta_sb a.toBitVec (C (4 * i + m)).toBitVec (by
    obtain ⟨b, e, hb⟩ := hC (4 * i + m)
    rw [e]; exact ta_cb hb) t
  have e4 : (ta_n o C i 4).toBitVec = (ta_n o C i 3).toBitVec <<< 8 ||| (C (4 * i + 3)).toBitVec := ta_ob _ _
  have e3 : (ta_n o C i 3).toBitVec = (ta_n o C i 2).toBitVec <<< 8 ||| (C (4 * i + 2)).toBitVec := ta_ob _ _
  have e2 : (ta_n o C i 2).toBitVec = (ta_n o C i 1).toBitVec <<< 8 ||| (C (4 * i + 1)).toBitVec := ta_ob _ _
  have e1 : (ta_n o C i 1).toBitVec = (ta_n o C i 0).toBitVec <<< 8 ||| (C (4 * i + 0)).toBitVec := ta_ob _ _
  rw [e4]
  rcases (show r = 0 ∨ r = 1 ∨ r = 2 ∨ r = 3 by omega) with rfl | rfl | rfl | rfl
  · rw [(st _ 3 _).2 (by omega) (by omega), e3, (st _ 2 _).2 (by omega) (by omega), e2, (st _ 1 _).2 (by omega) (by omega), e1, (st _ 0 _).1 (by omega)]
    congr 1
    omega
  · rw [(st _ 3 _).2 (by omega) (by omega), e3, (st _ 2 _).2 (by omega) (by omega), e2, (st _ 1 _).1 (by omega)]
    congr 1
    omega
  · rw [(st _ 3 _).2 (by omega) (by omega), e3, (st _ 2 _).1 (by omega)]
    congr 1
    omega
  · rw [(st _ 3 _).1 (by omega)]
    congr 1
    omega
theorem ta_sh : ∀ r : Nat, r < 4 → ((nI (24 - 8 * r) &&& 31).toBitVec.smod 32).toNat = 24 - 8 * r := by decide +kernel
theorem ta_byte {X C : Nat → Int32} {old : Nat → Int32} (hC : ta_C C) {v : Nat} (hX : X (v / 4) = ta_n (old (v / 4)) C (v / 4) 4) : (m_yb X v).toInt8.toInt32.toInt8.toInt32 = C v := by
  rw [m_byte_2]
  have hr : v % 4 < 4 := Nat.mod_lt _ (by decide)
  have e : (m_yb X v).toInt8 = (C v).toInt8 := by
    apply Int8.toBitVec_inj.1
    apply BitVec.eq_of_getLsbD_eq
    intro j hj
    have e9 : (m_yb X v).toBitVec.getLsbD j = (C v).toBitVec.getLsbD j := by
      show (BitVec.sshiftRight (X (v / 4)).toBitVec ((nI (24 - 8 * (v % 4)) &&& 31).toBitVec.smod 32).toNat).getLsbD j = _
      rw [ta_sh _ hr, BitVec.getLsbD_sshiftRight, decide_eq_false (show ¬ 32 ≤ j by omega), Bool.not_false, Bool.true_and, if_pos (by omega), hX, ta_bit hC hr j hj]
      rw [show 4 * (v / 4) + v % 4 = v by omega]
    have h3 : j < 32 := by omega
    show ((m_yb X v).toBitVec.signExtend 8).getLsbD j = ((C v).toBitVec.signExtend 8).getLsbD j
    rw [BitVec.getLsbD_signExtend, BitVec.getLsbD_signExtend, if_pos h3, if_pos h3, e9]
  rw [e]
  obtain ⟨b, eb, hb⟩ := hC v
  rw [eb]
  exact tx_i8 b hb
theorem ta_feed {hb tp X : m_Rr} {z : Nat} (hz : z ≤ 1980) (z2 : hb 7 = nI z) : ∃ hb', f_X12_feed hb tp (X 0) (X 1) (X 2) (X 3) (X 4) = some (.inl (nI (z + 20)), hb', m_ru tp (fun v => (m_yb X v).toInt8.toInt32.toInt8.toInt32) z 20) ∧ hb' 7 = nI (z + 20) ∧ ∀ j, j ≠ 7 → hb' j = hb j := by
  obtain ⟨h1, a1, b1, c1⟩ := m_app (hb := hb) (tp := tp) (X := X) (z := z) (i := 0) (by omega) z2
  obtain ⟨h2, a2, b2, c2⟩ := m_app (hb := h1) (tp := tp) (X := X) (z := z) (i := 1) (by omega) b1
  obtain ⟨h3, a3, b3, c3⟩ := m_app (hb := h2) (tp := tp) (X := X) (z := z) (i := 2) (by omega) b2
  obtain ⟨h4, a4, b4, c4⟩ := m_app (hb := h3) (tp := tp) (X := X) (z := z) (i := 3) (by omega) b3
  obtain ⟨h5, a5, b5, c5⟩ := m_app (hb := h4) (tp := tp) (X := X) (z := z) (i := 4) (by omega) b4
  rw [Nat.mul_zero, m_ru_0] at a1
  refine ⟨h5, ?_, b5, fun j hj => (c5 j hj).trans ((c4 j hj).trans ((c3 j hj).trans ((c2 j hj).trans (c1 j hj))))⟩
  unfold f_X12_feed
  rw [z2, if_pos (show nI z ≤ (1980 : Int32) from nI_le (b := 1980) hz (by decide)), a1, Option.bind_some]
  dsimp only
  rw [a2, Option.bind_some]
  dsimp only
  rw [a3, Option.bind_some]
  dsimp only
  rw [a4, Option.bind_some]
  dsimp only
  rw [a5, Option.bind_some]
  show some (Sum.inl (h5 7), h5, _) = _
  rw [show h5 7 = nI (z + 20) from b5]
theorem ta_trim {hb : m_Rr} {x z : Nat} (hx : x ≤ z) (hz : z < 2 ^ 31) (z2 : hb 7 = nI z) : f_X12_trim hb (nI x) = some (.inl (nI x), q_up hb 7 (nI x)) := by
  unfold f_X12_trim
  rw [if_neg (nI_pos (by omega)), z2, if_pos (nI_le hx hz)]
/-- what the tape holds when signs up to z have come -/
def ta_P (tp : m_Rr) (C : Nat → Int32) (z : Nat) : Prop := (∀ j, j < 2000 → ∃ b, b < 128 ∧ tp j = nI b) ∧ ∀ j, j < z → tp j = C j
theorem ta_P_s {tp X C : m_Rr} {z : Nat} {old : Nat → Int32} (hC : ta_C C) (hP : ta_P tp C z) (hX : ∀ i, i < 5 → X i = ta_n (old i) (fun v => C (z + v)) i 4) : ta_P (m_ru tp (fun v => (m_yb X v).toInt8.toInt32.toInt8.toInt32) z 20) C (z + 20) := by
  have hC2 : ta_C (fun v => C (z + v)) := fun v => hC (z + v)
  have hb : ∀ v, v < 20 → (m_yb X v).toInt8.toInt32.toInt8.toInt32 = C (z + v) := fun v hv => ta_byte hC2 (hX (v / 4) (by omega))
  refine ⟨fun j hj => ?_, fun j hj => ?_⟩
  · unfold m_ru
    by_cases e : z ≤ j ∧ j < z + 20
    · rw [if_pos e]
      obtain ⟨b, eb, hb2⟩ := hC (z + (j - z))
      exact ⟨b, hb2, (hb (j - z) (by omega)).trans eb⟩
    · rw [if_neg e]; exact hP.1 j hj
  · unfold m_ru
    by_cases e : z ≤ j ∧ j < z + 20
    · rw [if_pos e]
      exact (hb (j - z) (by omega)).trans (by rw [show z + (j - z) = j by omega])
    · rw [if_neg e]; exact hP.2 j (by omega)
/-- the signs that are fed: the text's, then blanks -/
def ta_L (l : List Int32) (j : Nat) : Int32 := if j < l.length then l.getD j 0 else 32
theorem ta_LC {l : List Int32} (hl : tx_as l) : ta_C (ta_L l) := fun v => by
  unfold ta_L
  split
  · next h =>
    obtain ⟨b, e, hb⟩ := tx_at hl h
    exact ⟨b, e, hb⟩
  · exact ⟨32, rfl, by decide⟩
theorem ta_T {tp : m_Rr} {l : List Int32} {z : Nat} (h1 : l.length ≤ 2000) (hP : ta_P tp (ta_L l) z) (hz : l.length ≤ z) : zt_T tp l :=
  zt_T_of h1 hP.1 (fun j hj => by
    rw [hP.2 j (by omega)]
    exact if_pos hj)
