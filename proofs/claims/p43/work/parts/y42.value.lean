/-! WHAT A STEP'S SUM AND TEST COME TO, on both sides -/
section ZVAL
variable {h : q_H} {s v : Nat} {ν : Nat → Nat} {H m hf : Nat} {hL : List Nat} {pn mp bn ly pl sz ag rc ld lo lr hk rw st sh sw sp ss sr sa sd : m_Rr} {hl ll : List Nat} {hkL : List (Option Nat)}
theorem z_B_loft (hR : m_R H m hf hL bn ly pl sz ag rc ld lo lr hk rw st sh sw sp ss sr sa sd) (hB : z_B h s ν H m hf hL pn bn ly pl sz ag rc ld hk hl ll hkL) : lo 2 = nI ll.length := by
  obtain ⟨⟨hE, hZ⟩, -, -, -, ⟨-, -, hlo2⟩, -⟩ := hR
  obtain ⟨b1, ⟨v1, v2, ⟨v3, v4⟩, -⟩, -⟩ := hB
  have hb' : ∀ b, b < 136 → sw b = 2 → b < 128 ∧ ly b = 2 := fun b d1 d2 => by
    rcases Nat.lt_or_ge b 128 with h1 | h1
    · exact ⟨h1, by rw [← (hE b h1).1]; exact d2⟩
    · rw [hZ b h1 d1] at d2; exact absurd d2 (by decide)
  rw [hlo2]
  refine z_card (ν := ν) v3 (fun z => ?_) (fun b c hb hc h2 h2' e => ?_)
  · rw [v4]
    constructor
    · rintro ⟨b, d1, d2, d3⟩
      exact ⟨b, by omega, by rw [(hE b d1).1]; exact d2, d3⟩
    · rintro ⟨b, d1, d2, d3⟩
      exact ⟨b, (hb' b d1 d2).1, (hb' b d1 d2).2, d3⟩
  · obtain ⟨x1, x2⟩ := hb' b hb h2
    obtain ⟨x3, x4⟩ := hb' c hc h2'
    exact v1 b c x1 x3 (by rw [x2]; decide) (by rw [x4]; decide) e
theorem z_B_half (hR : m_R H m hf hL bn ly pl sz ag rc ld lo lr hk rw st sh sw sp ss sr sa sd) (hB : z_B h s ν H m hf hL pn bn ly pl sz ag rc ld hk hl ll hkL) : bn 7 = nI hl.length := by
  rw [hB.2.1.2.1, List.length_map]
  exact hR.2.2.2.1.2.2.2.1
/-- the values by hand -/
def z_same (o o' : Option Nat) : Bool := match o, o' with
  | some x, some y => decide (x = y)
  | _, _ => false
theorem z_val_n {n : Int32} : f_X8_value pn bn sz ag lo hk 2 n = some n := rfl
theorem z_val_step {n : Int32} (hB : z_B h s ν H m hf hL pn bn ly pl sz ag rc ld hk hl ll hkL) : f_X8_value pn bn sz ag lo hk 20 n = some (q_I h s 7) := by
  rw [hB.2.2.2.2.1]; rfl
theorem z_val_used {n : Int32} (hR : m_R H m hf hL bn ly pl sz ag rc ld lo lr hk rw st sh sw sp ss sr sa sd) (hB : z_B h s ν H m hf hL pn bn ly pl sz ag rc ld hk hl ll hkL) : f_X8_value pn bn sz ag lo hk 21 n = some (z_sum (fun x => q_I h x 0) hl) := by
  rw [z_B_sum hR hB]; rfl
theorem z_val_free {n : Int32} (hP : m_Pl H m hf pn mp) (hR : m_R H m hf hL bn ly pl sz ag rc ld lo lr hk rw st sh sw sp ss sr sa sd) (hB : z_B h s ν H m hf hL pn bn ly pl sz ag rc ld hk hl ll hkL) : f_X8_value pn bn sz ag lo hk 22 n = some (q_I h s 3 - z_sum (fun x => q_I h x 0) hl) := by
  rw [z_B_sum hR hB, hB.2.2.1, ← hP.1]; rfl
theorem z_val_cop {n : Int32} (hB : z_B h s ν H m hf hL pn bn ly pl sz ag rc ld hk hl ll hkL) : f_X8_value pn bn sz ag lo hk 23 n = some (q_I h s 10) := by
  rw [hB.2.2.2.2.2.2.2.1]; rfl
theorem z_val_bal {n : Int32} (hR : m_R H m hf hL bn ly pl sz ag rc ld lo lr hk rw st sh sw sp ss sr sa sd) (hB : z_B h s ν H m hf hL pn bn ly pl sz ag rc ld hk hl ll hkL) : f_X8_value pn bn sz ag lo hk 24 n = some (nI hl.length + nI ll.length) := by
  rw [← z_B_half hR hB, ← z_B_loft hR hB]; rfl
theorem z_val_size {i : Nat} {o : Option Nat} (hR : m_R H m hf hL bn ly pl sz ag rc ld lo lr hk rw st sh sw sp ss sr sa sd) (hB : z_B h s ν H m hf hL pn bn ly pl sz ag rc ld hk hl ll hkL) (hi : i < H) (ho : hkL[i]? = some o) : f_X8_value pn bn sz ag lo hk 25 (nI i) = some (z_col (q_I h) o 0) := by
  obtain ⟨i6, -, -⟩ := m_hkv hR hi
  have eC : f_X8_value pn bn sz ag lo hk 25 (nI i) = (f_X1_size sz (hk i)).bind fun r => some r := by
    show ((f_X2_held hk (nI i)).bind fun r => (f_X1_size sz r).bind fun r => some r) = _
    rw [m_held i6]; rfl
  rcases hB.2.1.2.2.2.2.2.1.2 i hi with ⟨d1, d2⟩ | ⟨b, hb, hb0, d1, d2⟩
  · obtain rfl : o = none := Option.some.inj (ho.symm.trans d2)
    rw [eC, d1, m_size1]; rfl
  · obtain rfl : o = some (ν b) := Option.some.inj (ho.symm.trans d2)
    rw [eC, d1, m_size hb]
    exact congrArg some (hB.2.1.2.2.2.1 b hb hb0).1.symm
theorem z_val_age {i : Nat} {o : Option Nat} (hR : m_R H m hf hL bn ly pl sz ag rc ld lo lr hk rw st sh sw sp ss sr sa sd) (hB : z_B h s ν H m hf hL pn bn ly pl sz ag rc ld hk hl ll hkL) (hi : i < H) (ho : hkL[i]? = some o) : f_X8_value pn bn sz ag lo hk 26 (nI i) = some (z_col (q_I h) o 1) := by
  obtain ⟨i6, -, -⟩ := m_hkv hR hi
  have eC : f_X8_value pn bn sz ag lo hk 26 (nI i) = (f_X1_age ag (hk i)).bind fun r => some r := by
    show ((f_X2_held hk (nI i)).bind fun r => (f_X1_age ag r).bind fun r => some r) = _
    rw [m_held i6]; rfl
  rcases hB.2.1.2.2.2.2.2.1.2 i hi with ⟨d1, d2⟩ | ⟨b, hb, hb0, d1, d2⟩
  · obtain rfl : o = none := Option.some.inj (ho.symm.trans d2)
    rw [eC, d1, m_age1]; rfl
  · obtain rfl : o = some (ν b) := Option.some.inj (ho.symm.trans d2)
    rw [eC, d1, m_age hb]
    exact congrArg some (hB.2.1.2.2.2.1 b hb hb0).2.1.symm
theorem z_val_has {i : Nat} {o : Option Nat} (hR : m_R H m hf hL bn ly pl sz ag rc ld lo lr hk rw st sh sw sp ss sr sa sd) (hB : z_B h s ν H m hf hL pn bn ly pl sz ag rc ld hk hl ll hkL) (hi : i < H) (ho : hkL[i]? = some o) : f_X8_value pn bn sz ag lo hk 27 (nI i) = some (if o.isSome = true then 1 else 0) := by
  obtain ⟨i6, -, -⟩ := m_hkv hR hi
  have eC : f_X8_value pn bn sz ag lo hk 27 (nI i) = if hk i = -1 then some 0 else some 1 := by
    show ((f_X2_held hk (nI i)).bind fun r => if r = (-1 : Int32) then (f_X8_one false).bind fun r4 => some r4 else (f_X8_one true).bind fun r5 => some r5) = _
    rw [m_held i6]; rfl
  rcases hB.2.1.2.2.2.2.2.1.2 i hi with ⟨d1, d2⟩ | ⟨b, hb, hb0, d1, d2⟩
  · obtain rfl : o = none := Option.some.inj (ho.symm.trans d2)
    rw [eC, if_pos d1]; rfl
  · obtain rfl : o = some (ν b) := Option.some.inj (ho.symm.trans d2)
    rw [eC, if_neg (by rw [d1]; exact m_nI_m1 (by omega))]; rfl
theorem z_val_same {i j : Nat} {o o' : Option Nat} (hR : m_R H m hf hL bn ly pl sz ag rc ld lo lr hk rw st sh sw sp ss sr sa sd) (hB : z_B h s ν H m hf hL pn bn ly pl sz ag rc ld hk hl ll hkL) (hi : i < H) (ho : hkL[i]? = some o) (hj : j < H) (ho' : hkL[j]? = some o') : f_X8_value pn bn sz ag lo hk 28 (nI (i * 6 + j)) = some (if z_same o o' = true then 1 else 0) := by
  obtain ⟨i6, i1, -⟩ := m_hkv hR hi
  obtain ⟨j6, j1, -⟩ := m_hkv hR hj
  have eC : f_X8_value pn bn sz ag lo hk 28 (nI (i * 6 + j)) = some (if (decide (¬ sh i = -1 ∧ sh i = sh j)) = true then 1 else 0) := by
    show ((f_X2_sameHeld hk (nI (i * 6 + j) / (6 : Int32)) (nI (i * 6 + j) - nI (i * 6 + j) / (6 : Int32) * (6 : Int32))).bind fun r6 => (f_X8_one r6).bind fun r7 => some r7) = _
    rw [show (6 : Int32) = nI 6 from rfl, pk_rem (by omega) (by decide) (by decide), pk_div (by omega) (by decide) (by decide), show (i * 6 + j) / 6 = i by omega, show (i * 6 + j) % 6 = j by omega, m_same hR hi hj, Option.bind_some, m_one]; rfl
  rw [eC, ← i1, ← j1]
  have hc := hB.2.1.2.2.2.2.2.1.2
  rcases hc i hi with ⟨d1, d2⟩ | ⟨b, hb, hb0, d1, d2⟩
  · obtain rfl : o = none := Option.some.inj (ho.symm.trans d2)
    rw [if_neg (by rw [decide_eq_true_eq]; exact fun h => h.1 d1)]; rfl
  · obtain rfl : o = some (ν b) := Option.some.inj (ho.symm.trans d2)
    have hne : ¬ hk i = -1 := by rw [d1]; exact m_nI_m1 (by omega)
    rcases hc j hj with ⟨e1, e2⟩ | ⟨c, hcc, hc0, e1, e2⟩
    · obtain rfl : o' = none := Option.some.inj (ho'.symm.trans e2)
      rw [if_neg (by rw [decide_eq_true_eq]; exact fun h => hne (h.2.trans e1))]; rfl
    · obtain rfl : o' = some (ν c) := Option.some.inj (ho'.symm.trans e2)
      by_cases hbc : b = c
      · subst hbc
        have hs : z_same (some (ν b)) (some (ν b)) = true := decide_eq_true rfl
        rw [if_pos (by rw [decide_eq_true_eq]; exact ⟨hne, d1.trans e1.symm⟩), if_pos hs]
      · have hs : ¬ z_same (some (ν b)) (some (ν c)) = true := fun h => hbc (hB.2.1.1 b c hb hcc hb0 hc0 (of_decide_eq_true h))
        rw [if_neg (by rw [decide_eq_true_eq]; exact fun h => hbc ((nI_eq (by omega) (by omega)).mp (d1.symm.trans (h.2.trans e1)))), if_neg hs]
/-- the orders of a step's sum -/
def z_sumO (w : Nat → Int32) : List (Nat × Int32) := if w 4 = 0 then [(2, w 5)] else if w 4 = 1 then [(20, 0), (20, 0), (2, 7), (43, 0), (2, 7), (42, 0), (41, 0)] else [(26, w 2), (2, w 5), (40, 0)]
theorem z_sum_run {i2 : Nat} {o2 : Option Nat} (hR : m_R H m hf hL bn ly pl sz ag rc ld lo lr hk rw st sh sw sp ss sr sa sd) (hB : z_B h s ν H m hf hL pn bn ly pl sz ag rc ld hk hl ll hkL) (h2 : q_I h v 2 = nI i2) (hi : i2 < H) (ho : hkL[i2]? = some o2) : z_run (f_X8_value pn bn sz ag lo hk) (z_sumO (q_I h v)) [] = some [z_sumV (q_I h) s v o2] := by
  unfold z_sumO z_sumV
  by_cases h4 : q_I h v 4 = 0
  · rw [if_pos h4, if_pos h4]; rfl
  · rw [if_neg h4, if_neg h4]
    by_cases h41 : q_I h v 4 = 1
    · rw [if_pos h41, if_pos h41]
      have e20 := z_val_step (n := 0) hB (sz := sz) (lo := lo)
      simp only [z_run, z_ex, e20, z_val_n]
      rfl
    · rw [if_neg h41, if_neg h41]
      have e26 := z_val_age hR hB hi ho
      rw [← h2] at e26
      simp only [z_run, z_ex, e26, z_val_n]
      rfl
end ZVAL
