/-! THE LAW'S INSTRUCTIONS ARE IN ORDER -/
theorem q_okB_pcs {M : q_M} (n : Nat) (h : ∀ j, j < n → q_okp M j = true) (hl : M.2.2.2.2.1.length ≤ 40 * n) : q_okB M = true := by
  unfold q_okB
  have := q_okL_pcs (M := M) n 0 (fun j _ hj => h j (by omega)) (by omega)
  simpa using this
set_option maxRecDepth 100000 in
theorem okp_L_law_0 : q_okp m_L_law 0 = true := by decide +kernel
set_option maxRecDepth 100000 in
theorem okp_L_law_1 : q_okp m_L_law 1 = true := by decide +kernel
set_option maxRecDepth 100000 in
theorem okp_L_law_2 : q_okp m_L_law 2 = true := by decide +kernel
set_option maxRecDepth 100000 in
theorem okp_L_law_3 : q_okp m_L_law 3 = true := by decide +kernel
set_option maxRecDepth 100000 in
theorem okp_L_law_4 : q_okp m_L_law 4 = true := by decide +kernel
set_option maxRecDepth 100000 in
theorem okp_L_law_5 : q_okp m_L_law 5 = true := by decide +kernel
set_option maxRecDepth 100000 in
theorem okp_L_law_6 : q_okp m_L_law 6 = true := by decide +kernel
set_option maxRecDepth 100000 in
theorem okp_L_law_7 : q_okp m_L_law 7 = true := by decide +kernel
set_option maxRecDepth 100000 in
theorem okp_L_law_8 : q_okp m_L_law 8 = true := by decide +kernel
set_option maxRecDepth 100000 in
theorem okp_L_law_9 : q_okp m_L_law 9 = true := by decide +kernel
set_option maxRecDepth 100000 in
theorem okp_L_law_10 : q_okp m_L_law 10 = true := by decide +kernel
set_option maxRecDepth 100000 in
theorem okp_L_law_11 : q_okp m_L_law 11 = true := by decide +kernel
set_option maxRecDepth 100000 in
theorem okp_L_law_12 : q_okp m_L_law 12 = true := by decide +kernel
set_option maxRecDepth 100000 in
theorem okB_L_law : q_okB m_L_law = true := q_okB_pcs 13 (fun j hj => match j, hj with
  | 0, _ => okp_L_law_0
  | 1, _ => okp_L_law_1
  | 2, _ => okp_L_law_2
  | 3, _ => okp_L_law_3
  | 4, _ => okp_L_law_4
  | 5, _ => okp_L_law_5
  | 6, _ => okp_L_law_6
  | 7, _ => okp_L_law_7
  | 8, _ => okp_L_law_8
  | 9, _ => okp_L_law_9
  | 10, _ => okp_L_law_10
  | 11, _ => okp_L_law_11
  | 12, _ => okp_L_law_12
  | z + 13, hz => absurd hz (by omega)) (Nat.le_of_ble_eq_true rfl)
set_option maxRecDepth 100000 in
theorem okp_L_act_0 : q_okp m_L_act 0 = true := by decide +kernel
set_option maxRecDepth 100000 in
theorem okp_L_act_1 : q_okp m_L_act 1 = true := by decide +kernel
set_option maxRecDepth 100000 in
theorem okp_L_act_2 : q_okp m_L_act 2 = true := by decide +kernel
set_option maxRecDepth 100000 in
theorem okp_L_act_3 : q_okp m_L_act 3 = true := by decide +kernel
set_option maxRecDepth 100000 in
theorem okp_L_act_4 : q_okp m_L_act 4 = true := by decide +kernel
set_option maxRecDepth 100000 in
theorem okp_L_act_5 : q_okp m_L_act 5 = true := by decide +kernel
set_option maxRecDepth 100000 in
theorem okB_L_act : q_okB m_L_act = true := q_okB_pcs 6 (fun j hj => match j, hj with
  | 0, _ => okp_L_act_0
  | 1, _ => okp_L_act_1
  | 2, _ => okp_L_act_2
  | 3, _ => okp_L_act_3
  | 4, _ => okp_L_act_4
  | 5, _ => okp_L_act_5
  | z + 6, hz => absurd hz (by omega)) (Nat.le_of_ble_eq_true rfl)
