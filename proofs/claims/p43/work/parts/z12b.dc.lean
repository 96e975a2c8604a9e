/-! A QUOTIENT IS WHAT IT IS -/
/-- a quotient is what it is -/
def q_dcc : Bool := (List.range 97).all fun u => (List.range 129).all fun c => Nat.beq c 0 || decide (FP.dcmp (FP.ddiv (FP.i2d (nI u)) (FP.i2d (nI c))) (FP.ddiv (FP.i2d (nI u)) (FP.i2d (nI c))) = some .eq)
set_option maxRecDepth 100000 in
theorem q_dcc_ok : q_dcc = true := by decide +kernel
theorem q_dc {u c : Nat} (hu : u ≤ 96) (hc : c ≤ 128) : FP.dcmp (q_mean u c) (q_mean u c) = some .eq := by
  unfold q_mean
  by_cases h0 : c = 0
  · rw [if_pos h0]; decide +kernel
  · rw [if_neg h0]
    have h1 := List.all_eq_true.mp q_dcc_ok u (List.mem_range.mpr (by omega))
    have h2 := List.all_eq_true.mp h1 c (List.mem_range.mpr (by omega))
    rw [Bool.or_eq_true] at h2
    rcases h2 with h2 | h2
    · exact absurd (Nat.eq_of_beq_eq_true h2) h0
    · exact of_decide_eq_true h2
