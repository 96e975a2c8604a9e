/-! A STEP'S TEST, on both sides -/
section ZTEST
variable {h : q_H} {s v : Nat} {ν : Nat → Nat} {H m hf : Nat} {hL : List Nat} {pn mp bn ly pl sz ag rc ld lo lr hk rw st sh sw sp ss sr sa sd : m_Rr} {hl ll : List Nat} {hkL : List (Option Nat)}
/-- the orders of a step's test, by its kind -/
def z_tstO (a : Nat) (w : Nat → Int32) : List (Nat × Int32) := match a with
  | 0 => []
  | 1 => [(21, 0), (2, w 7), (45, 0)]
  | 2 => [(27, w 8)]
  | 3 => [(28, w 8 * 6 + w 1), (29, 0)]
  | 4 => [(20, 0), (20, 0), (2, 3), (43, 0), (2, 3), (42, 0), (41, 0), (2, w 7 - w 7 / 3 * 3), (46, 0)]
  | 5 => [(22, 0), (25, w 8), (44, 0), (23, 0), (2, w 7), (44, 0), (31, 0)]
  | _ => [(24, 0), (2, w 7), (44, 0), (26, w 8), (2, 1), (47, 0), (30, 0)]
theorem z_nI_ti {a : Nat} (ha : a ≤ 6) : (nI a).toInt = a := by
  have : a = 0 ∨ a = 1 ∨ a = 2 ∨ a = 3 ∨ a = 4 ∨ a = 5 ∨ a = 6 := by omega
  rcases this with rfl | rfl | rfl | rfl | rfl | rfl | rfl <;> decide
set_option maxHeartbeats 1000000 in
theorem z_tst_run {a i1 i8 : Nat} {o1 o8 : Option Nat} (hP : m_Pl H m hf pn mp) (hR : m_R H m hf hL bn ly pl sz ag rc ld lo lr hk rw st sh sw sp ss sr sa sd) (hB : z_B h s ν H m hf hL pn bn ly pl sz ag rc ld hk hl ll hkL) (h6 : q_I h v 6 = nI a) (ha : a ≤ 6) (ha0 : a ≠ 0) (h1 : q_I h v 1 = nI i1) (hi1 : i1 < H) (ho1 : hkL[i1]? = some o1) (h8 : q_I h v 8 = nI i8) (hi8 : i8 < H) (ho8 : hkL[i8]? = some o8) :
    z_run (f_X8_value pn bn sz ag lo hk) (z_tstO a (q_I h v)) [] = some [if z_dueV (q_I h) s v (z_sum (fun x => q_I h x 0) hl) (nI hl.length + nI ll.length) o8 o1 = true then 1 else 0] := by
  have hc : a = 1 ∨ a = 2 ∨ a = 3 ∨ a = 4 ∨ a = 5 ∨ a = 6 := by omega
  have e6 : (q_I h v 6).toInt = a := by rw [h6]; exact z_nI_ti ha
  obtain ⟨g6, -, -⟩ := m_hkv hR hi1
  obtain ⟨g8, -, -⟩ := m_hkv hR hi8
  obtain ⟨D, hD⟩ : ∃ D, D = z_dueV (q_I h) s v (z_sum (fun x => q_I h x 0) hl) (nI hl.length + nI ll.length) o8 o1 := ⟨_, rfl⟩
  rw [← hD]
  unfold z_dueV at hD
  rw [e6] at hD
  rcases hc with rfl | rfl | rfl | rfl | rfl | rfl
  · rw [if_neg (by decide), if_pos (by decide)] at hD
    rw [hD]
    have e21 := z_val_used (n := 0) hR hB
    simp only [z_tstO, z_run, z_ex, e21, z_val_n]
    by_cases c : z_sum (fun x => q_I h x 0) hl ≤ q_I h v 7
    · simp [z_jn, c]
    · simp [z_jn, c]
  · rw [if_neg (by decide), if_neg (by decide), if_pos (by decide)] at hD
    rw [hD]
    have e27 := z_val_has hR hB hi8 ho8
    rw [← h8] at e27
    simp only [z_tstO, z_run, z_ex, e27]
    rfl
  · rw [if_neg (by decide), if_neg (by decide), if_neg (by decide), if_pos (by decide)] at hD
    rw [hD]
    have e28 := z_val_same hR hB hi8 ho8 hi1 ho1
    have ew : q_I h v 8 * 6 + q_I h v 1 = nI (i8 * 6 + i1) := by
      rw [h8, h1, show (6 : Int32) = nI 6 from rfl, pk_mul, nI_add]
    rw [show z_run (f_X8_value pn bn sz ag lo hk) (z_tstO 3 (q_I h v)) [] = (f_X8_value pn bn sz ag lo hk 28 (q_I h v 8 * 6 + q_I h v 1)).bind fun r => some [1 - r] from by
      show ((f_X8_value pn bn sz ag lo hk 28 (q_I h v 8 * 6 + q_I h v 1)).map (fun x => [x])).bind _ = _
      cases f_X8_value pn bn sz ag lo hk 28 (q_I h v 8 * 6 + q_I h v 1) <;> rfl, ew, e28, Option.bind_some]
    cases o8 with
    | none => cases o1 <;> simp [z_same]
    | some x =>
      cases o1 with
      | none => simp [z_same]
      | some y =>
        show some [1 - (if decide (x = y) = true then (1 : Int32) else 0)] = some [if (!decide (x = y)) = true then 1 else 0]
        by_cases e : x = y
        · rw [decide_eq_true e]; rfl
        · rw [decide_eq_false e]; rfl
  · rw [if_neg (by decide), if_neg (by decide), if_neg (by decide), if_neg (by decide), if_pos (by decide)] at hD
    rw [hD]
    have e20 := z_val_step (n := 0) hB (sz := sz) (lo := lo)
    simp only [z_tstO, z_run, z_ex, e20, z_val_n]
    by_cases c : q_I h s 7 - q_I h s 7 / 3 * 3 = q_I h v 7 - q_I h v 7 / 3 * 3
    · simp [z_jn, c]
    · simp [z_jn, c]
  · rw [if_neg (by decide), if_neg (by decide), if_neg (by decide), if_neg (by decide), if_neg (by decide), if_pos (by decide)] at hD
    rw [hD]
    have e22 := z_val_free (n := 0) hP hR hB
    have e25 := z_val_size hR hB hi8 ho8
    rw [← h8] at e25
    have e23 := z_val_cop (n := 0) hB (sz := sz) (lo := lo)
    simp only [z_tstO, z_run, z_ex, e22, e25, e23, z_val_n]
    have d1 : (decide (q_I h s 3 - z_sum (fun x => q_I h x 0) hl < z_col (q_I h) o8 0)) = !decide (z_col (q_I h) o8 0 ≤ q_I h s 3 - z_sum (fun x => q_I h x 0) hl) := by
      by_cases c : z_col (q_I h) o8 0 ≤ q_I h s 3 - z_sum (fun x => q_I h x 0) hl
      · rw [decide_eq_true c, decide_eq_false (Int32.not_lt.mpr c)]; rfl
      · rw [decide_eq_false c, decide_eq_true (Int32.not_le.mp c)]; rfl
    rw [d1]
    by_cases c : z_col (q_I h) o8 0 ≤ q_I h s 3 - z_sum (fun x => q_I h x 0) hl <;> by_cases c2 : q_I h v 7 ≤ q_I h s 10 <;> simp [z_jn, c, c2]
  · rw [if_neg (by decide), if_neg (by decide), if_neg (by decide), if_neg (by decide), if_neg (by decide), if_neg (by decide)] at hD
    rw [hD]
    have e24 := z_val_bal (n := 0) hR hB
    have e26 := z_val_age hR hB hi8 ho8
    rw [← h8] at e26
    simp only [z_tstO, z_run, z_ex, e24, e26, z_val_n]
    have d2 : (decide (2 ≤ z_col (q_I h) o8 1)) = decide (1 < z_col (q_I h) o8 1) := by
      by_cases c : (2 : Int32) ≤ z_col (q_I h) o8 1
      · rw [decide_eq_true c, decide_eq_true (Int32.lt_of_lt_of_le (by decide) c)]
      · rw [decide_eq_false c, decide_eq_false (fun c2 => c ?_)]
        rw [Int32.le_iff_toInt_le]
        rw [Int32.lt_iff_toInt_lt] at c2
        have q1 : (1 : Int32).toInt = 1 := by decide
        have q2 : (2 : Int32).toInt = 2 := by decide
        omega
    rw [d2]
    by_cases c : q_I h v 7 ≤ nI hl.length + nI ll.length <;> by_cases c2 : 1 < z_col (q_I h) o8 1 <;> simp [z_jn, c, c2]
end ZTEST
