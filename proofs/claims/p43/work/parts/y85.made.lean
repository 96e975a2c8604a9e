/-! the class's object, made -/
def q_h00 : q_H := (400, fun _ => (9, 0, 0), fun _ _ => 0, fun _ _ => none, fun _ _ => none, fun _ _ => 0)
def q_h01 : q_H := q_new q_h00 (0, 10, 0)
def q_Z12_1 : q_H := q_new q_h01 (1, 1, 2000)
def q_Z12_2 : q_H := q_hR q_Z12_1 400 0 401
def q_Z12_3 : q_H := q_new q_Z12_2 (0, 5, 0)
def q_Z12_4 : q_H := q_F_X6_init 402 q_Z12_3
def q_Z12_5 : q_H := q_hR q_Z12_4 400 1 402
def q_Z12_6 : q_H := q_new q_Z12_5 (0, 5, 0)
def q_Z12_7 : q_H := q_F_X6_init 426 q_Z12_6
def q_Z12_8 : q_H := q_hR q_Z12_7 400 2 426
def q_Z12_9 : q_H := q_new q_Z12_8 (0, 6, 0)
def q_Z12_10 : q_H := q_F_X7_init 450 401 426 q_Z12_9
def q_Z12_11 : q_H := q_hR q_Z12_10 400 3 450
def q_Z12_12 : q_H := q_new q_Z12_11 (0, 1, 0)
def q_Z2_457_1 : q_H := q_new q_Z12_12 (0, 0, 0)
def q_Z2_457_2 : q_H := q_F_X1_init 458 q_Z2_457_1
def q_Z2_457_3 : q_H := q_hR q_Z2_457_2 457 0 458
def q_Z2_457_4 : q_H := q_new q_Z2_457_3 (0, 4, 0)
def q_Z2_457_5 : q_H := q_F_X5_init 465 q_Z2_457_4
def q_Z2_457_6 : q_H := q_hR q_Z2_457_5 457 1 465
def q_Z2_457_7 : q_H := q_new q_Z2_457_6 (0, 3, 0)
def q_Z2_457_8 : q_H := q_F_X4_init 467 q_Z2_457_7
def q_Z2_457_9 : q_H := q_hR q_Z2_457_8 457 2 467
def q_Z2_457_10 : q_H := q_new q_Z2_457_9 (1, 0, 6)
def q_Z2_457_11 : q_H := q_hR q_Z2_457_10 457 3 470
def q_Z2_457_12 : q_H := q_new q_Z2_457_11 (1, 0, 64)
def q_Z2_457_13 : q_H := q_hR q_Z2_457_12 457 4 471
def q_Z2_457_14 : q_H := q_new q_Z2_457_13 (1, 0, 64)
def q_Z2_457_15 : q_H := q_hR q_Z2_457_14 457 5 472
def q_Z2_457_16 : q_H := q_hI q_Z2_457_15 457 7 0
def q_Z2_457_17 : q_H := q_hI q_Z2_457_16 457 8 0
def q_Z2_457_18 : q_H := q_hI q_Z2_457_17 457 9 0
def q_Z2_457_19 : q_H := q_hI q_Z2_457_18 457 10 0
def q_Z2_457_20 : q_H := q_hI q_Z2_457_19 457 11 0
def q_Z2_457_21 : q_H := q_hI q_Z2_457_20 457 12 0
def q_Z2_457_22 : q_H := q_hI q_Z2_457_21 457 13 0
def q_Z2_457_23 : q_H := q_hI q_Z2_457_22 457 14 0
def q_Z2_457_24 : q_H := q_hR q_Z2_457_23 457 6 402
def q_Z2_457_25 : q_H := q_F_X2_begin 457 402 459 465 466 470 q_Z2_457_24
theorem ctc_X2_init_457 {g : q_G} {d : Nat} (hd : 4 ≤ d) : q_Ct g m_X2_init d 15 1490 [] [.ref 457, .ref 402] q_Z12_12 (fun o h' => o = .inl none ∧ h' = q_Z2_457_25) := by
  refine q_Ct_of ok_X2_init (Nat.le_of_ble_eq_true rfl) ?_ _ rfl rfl
  refine q_go 1 (c' := (1, [some (.ref 457), some (.ref 402)], [.ref 457], q_Z12_12)) ok_X2_init rfl ?_
  refine q_o_objInit ok_X2_init rfl rfl (Nat.le_trans (by decide) hd) (by decide) ?_
  refine q_go 1 (c' := (3, [some (.ref 457), some (.ref 402)], [.ref 457], q_Z12_12)) ok_X2_init rfl ?_
  refine q_o_new (h := q_Z12_12) ok_X2_init rfl rfl (show vwCl[0]? = some _ from rfl) q_i1_0 q_i2_0 (Nat.le_of_ble_eq_true rfl) (Nat.le_of_ble_eq_true rfl) ?_
  rw [show q_nx q_Z12_12 = 458 from by decide +kernel]
  change q_J g m_X2_init d 15 1490 _ [] _ 1 6 (4, [some (.ref 457), some (.ref 402)], [.ref 458, .ref 457], q_Z2_457_1)
  refine q_go 1 (c' := (5, [some (.ref 457), some (.ref 402)], [.ref 458, .ref 458, .ref 457], q_Z2_457_1)) ok_X2_init rfl ?_
  refine q_callI (h := q_Z2_457_1) (M2 := m_X1_init) (b := 458) (As := []) (rest := [.ref 458, .ref 457]) ok_X2_init ok_X1_init rfl (by first | exact Or.inl rfl | exact Or.inr ⟨_, rfl⟩) ci_X1_init rfl (ctn_X1_init (d := 2) (Nat.le_refl _) (h := q_Z2_457_1) (a := 458) (by decide +kernel) (by decide +kernel) (by decide +kernel)) (Nat.le_trans (by decide) hd) (Nat.le_of_ble_eq_true rfl) (Nat.le_of_ble_eq_true rfl) (Nat.le_of_ble_eq_true rfl) (fun x hx => absurd hx List.not_mem_nil) (fun _ _ _ => List.not_mem_nil) (fun _ _ => List.not_mem_nil) rfl (fun v h' hq => ?_) (fun E9 h' hq => by cases hq.1)
  obtain ⟨e1, e2⟩ := hq
  cases e1
  subst e2
  change q_J g m_X2_init d 15 1490 _ [] _ 7 1030 (6, [some (.ref 457), some (.ref 402)], [.ref 458, .ref 457], q_Z2_457_2)
  refine q_o_putR (h := q_Z2_457_2) ok_X2_init rfl (Nat.le_of_ble_eq_true rfl) (by decide +kernel) (show 0 < 2 by decide) rfl ?_
  change q_J g m_X2_init d 15 1490 _ [] _ 7 1030 (7, [some (.ref 457), some (.ref 402)], [], q_Z2_457_3)
  refine q_go 1 (c' := (8, [some (.ref 457), some (.ref 402)], [.ref 457], q_Z2_457_3)) ok_X2_init rfl ?_
  refine q_o_new (h := q_Z2_457_3) ok_X2_init rfl rfl (show vwCl[4]? = some _ from rfl) q_i1_4 q_i2_4 (Nat.le_of_ble_eq_true rfl) (Nat.le_of_ble_eq_true rfl) ?_
  rw [show q_nx q_Z2_457_3 = 465 from by decide +kernel]
  change q_J g m_X2_init d 15 1490 _ [] _ 8 1033 (9, [some (.ref 457), some (.ref 402)], [.ref 465, .ref 457], q_Z2_457_4)
  refine q_go 1 (c' := (10, [some (.ref 457), some (.ref 402)], [.ref 465, .ref 465, .ref 457], q_Z2_457_4)) ok_X2_init rfl ?_
  refine q_callI (h := q_Z2_457_4) (M2 := m_X5_init) (b := 465) (As := []) (rest := [.ref 465, .ref 457]) ok_X2_init ok_X5_init rfl (by first | exact Or.inl rfl | exact Or.inr ⟨_, rfl⟩) ci_X5_init rfl (ctn_X5_init (d := 2) (Nat.le_refl _) (h := q_Z2_457_4) (a := 465) (by decide +kernel) (by decide +kernel) (by decide +kernel)) (Nat.le_trans (by decide) hd) (Nat.le_of_ble_eq_true rfl) (Nat.le_of_ble_eq_true rfl) (Nat.le_of_ble_eq_true rfl) (fun x hx => absurd hx List.not_mem_nil) (fun _ _ _ => List.not_mem_nil) (fun _ _ => List.not_mem_nil) rfl (fun v h' hq => ?_) (fun E9 h' hq => by cases hq.1)
  obtain ⟨e1, e2⟩ := hq
  cases e1
  subst e2
  change q_J g m_X2_init d 15 1490 _ [] _ 9 1097 (11, [some (.ref 457), some (.ref 402)], [.ref 465, .ref 457], q_Z2_457_5)
  refine q_o_putR (h := q_Z2_457_5) ok_X2_init rfl (Nat.le_of_ble_eq_true rfl) (by decide +kernel) (show 0 < 2 by decide) rfl ?_
  change q_J g m_X2_init d 15 1490 _ [] _ 9 1097 (12, [some (.ref 457), some (.ref 402)], [], q_Z2_457_6)
  refine q_go 1 (c' := (13, [some (.ref 457), some (.ref 402)], [.ref 457], q_Z2_457_6)) ok_X2_init rfl ?_
  refine q_o_new (h := q_Z2_457_6) ok_X2_init rfl rfl (show vwCl[3]? = some _ from rfl) q_i1_3 q_i2_3 (Nat.le_of_ble_eq_true rfl) (Nat.le_of_ble_eq_true rfl) ?_
  rw [show q_nx q_Z2_457_6 = 467 from by decide +kernel]
  change q_J g m_X2_init d 15 1490 _ [] _ 10 1100 (14, [some (.ref 457), some (.ref 402)], [.ref 467, .ref 457], q_Z2_457_7)
  refine q_go 1 (c' := (15, [some (.ref 457), some (.ref 402)], [.ref 467, .ref 467, .ref 457], q_Z2_457_7)) ok_X2_init rfl ?_
  refine q_callI (h := q_Z2_457_7) (M2 := m_X4_init) (b := 467) (As := []) (rest := [.ref 467, .ref 457]) ok_X2_init ok_X4_init rfl (by first | exact Or.inl rfl | exact Or.inr ⟨_, rfl⟩) ci_X4_init rfl (ctn_X4_init (d := 2) (Nat.le_refl _) (h := q_Z2_457_7) (a := 467) (by decide +kernel) (by decide +kernel) (by decide +kernel)) (Nat.le_trans (by decide) hd) (Nat.le_of_ble_eq_true rfl) (Nat.le_of_ble_eq_true rfl) (Nat.le_of_ble_eq_true rfl) (fun x hx => absurd hx List.not_mem_nil) (fun _ _ _ => List.not_mem_nil) (fun _ _ => List.not_mem_nil) rfl (fun v h' hq => ?_) (fun E9 h' hq => by cases hq.1)
  obtain ⟨e1, e2⟩ := hq
  cases e1
  subst e2
  change q_J g m_X2_init d 15 1490 _ [] _ 12 1356 (16, [some (.ref 457), some (.ref 402)], [.ref 467, .ref 457], q_Z2_457_8)
  refine q_o_putR (h := q_Z2_457_8) ok_X2_init rfl (Nat.le_of_ble_eq_true rfl) (by decide +kernel) (show 0 < 2 by decide) rfl ?_
  change q_J g m_X2_init d 15 1490 _ [] _ 12 1356 (17, [some (.ref 457), some (.ref 402)], [], q_Z2_457_9)
  refine q_go 2 (c' := (19, [some (.ref 457), some (.ref 402)], [.int 6, .ref 457], q_Z2_457_9)) ok_X2_init rfl ?_
  refine q_o_newarrI (h := q_Z2_457_9) ok_X2_init rfl (show (6 : Int32) = nI 6 from rfl) (by decide) (Nat.le_of_ble_eq_true rfl) (Nat.le_of_ble_eq_true rfl) ?_
  rw [show q_nx q_Z2_457_9 = 470 from by decide +kernel]
  change q_J g m_X2_init d 15 1490 _ [] _ 13 1362 (20, [some (.ref 457), some (.ref 402)], [.ref 470, .ref 457], q_Z2_457_10)
  refine q_o_putR (h := q_Z2_457_10) ok_X2_init rfl (Nat.le_of_ble_eq_true rfl) (by decide +kernel) (show 0 < 2 by decide) rfl ?_
  change q_J g m_X2_init d 15 1490 _ [] _ 13 1362 (21, [some (.ref 457), some (.ref 402)], [], q_Z2_457_11)
  refine q_go 2 (c' := (23, [some (.ref 457), some (.ref 402)], [.int 64, .ref 457], q_Z2_457_11)) ok_X2_init rfl ?_
  refine q_o_newarrI (h := q_Z2_457_11) ok_X2_init rfl (show (64 : Int32) = nI 64 from rfl) (by decide) (Nat.le_of_ble_eq_true rfl) (Nat.le_of_ble_eq_true rfl) ?_
  rw [show q_nx q_Z2_457_11 = 471 from by decide +kernel]
  change q_J g m_X2_init d 15 1490 _ [] _ 14 1426 (24, [some (.ref 457), some (.ref 402)], [.ref 471, .ref 457], q_Z2_457_12)
  refine q_o_putR (h := q_Z2_457_12) ok_X2_init rfl (Nat.le_of_ble_eq_true rfl) (by decide +kernel) (show 0 < 2 by decide) rfl ?_
  change q_J g m_X2_init d 15 1490 _ [] _ 14 1426 (25, [some (.ref 457), some (.ref 402)], [], q_Z2_457_13)
  refine q_go 2 (c' := (27, [some (.ref 457), some (.ref 402)], [.int 64, .ref 457], q_Z2_457_13)) ok_X2_init rfl ?_
  refine q_o_newarrI (h := q_Z2_457_13) ok_X2_init rfl (show (64 : Int32) = nI 64 from rfl) (by decide) (Nat.le_of_ble_eq_true rfl) (Nat.le_of_ble_eq_true rfl) ?_
  rw [show q_nx q_Z2_457_13 = 472 from by decide +kernel]
  change q_J g m_X2_init d 15 1490 _ [] _ 15 1490 (28, [some (.ref 457), some (.ref 402)], [.ref 472, .ref 457], q_Z2_457_14)
  refine q_o_putR (h := q_Z2_457_14) ok_X2_init rfl (Nat.le_of_ble_eq_true rfl) (by decide +kernel) (show 0 < 2 by decide) rfl ?_
  change q_J g m_X2_init d 15 1490 _ [] _ 15 1490 (29, [some (.ref 457), some (.ref 402)], [], q_Z2_457_15)
  refine q_go 2 (c' := (31, [some (.ref 457), some (.ref 402)], [.int 0, .ref 457], q_Z2_457_15)) ok_X2_init rfl ?_
  refine q_o_putI (h := q_Z2_457_15) ok_X2_init rfl (Nat.le_of_ble_eq_true rfl) (by decide +kernel) (show 0 < 2 by decide) rfl ?_
  change q_J g m_X2_init d 15 1490 _ [] _ 15 1490 (32, [some (.ref 457), some (.ref 402)], [], q_Z2_457_16)
  refine q_go 2 (c' := (34, [some (.ref 457), some (.ref 402)], [.int 0, .ref 457], q_Z2_457_16)) ok_X2_init rfl ?_
  refine q_o_putI (h := q_Z2_457_16) ok_X2_init rfl (Nat.le_of_ble_eq_true rfl) (by decide +kernel) (show 0 < 2 by decide) rfl ?_
  change q_J g m_X2_init d 15 1490 _ [] _ 15 1490 (35, [some (.ref 457), some (.ref 402)], [], q_Z2_457_17)
  refine q_go 2 (c' := (37, [some (.ref 457), some (.ref 402)], [.int 0, .ref 457], q_Z2_457_17)) ok_X2_init rfl ?_
  refine q_o_putI (h := q_Z2_457_17) ok_X2_init rfl (Nat.le_of_ble_eq_true rfl) (by decide +kernel) (show 0 < 2 by decide) rfl ?_
  change q_J g m_X2_init d 15 1490 _ [] _ 15 1490 (38, [some (.ref 457), some (.ref 402)], [], q_Z2_457_18)
  refine q_go 2 (c' := (40, [some (.ref 457), some (.ref 402)], [.int 0, .ref 457], q_Z2_457_18)) ok_X2_init rfl ?_
  refine q_o_putI (h := q_Z2_457_18) ok_X2_init rfl (Nat.le_of_ble_eq_true rfl) (by decide +kernel) (show 0 < 2 by decide) rfl ?_
  change q_J g m_X2_init d 15 1490 _ [] _ 15 1490 (41, [some (.ref 457), some (.ref 402)], [], q_Z2_457_19)
  refine q_go 2 (c' := (43, [some (.ref 457), some (.ref 402)], [.int 0, .ref 457], q_Z2_457_19)) ok_X2_init rfl ?_
  refine q_o_putI (h := q_Z2_457_19) ok_X2_init rfl (Nat.le_of_ble_eq_true rfl) (by decide +kernel) (show 0 < 2 by decide) rfl ?_
  change q_J g m_X2_init d 15 1490 _ [] _ 15 1490 (44, [some (.ref 457), some (.ref 402)], [], q_Z2_457_20)
  refine q_go 2 (c' := (46, [some (.ref 457), some (.ref 402)], [.int 0, .ref 457], q_Z2_457_20)) ok_X2_init rfl ?_
  refine q_o_putI (h := q_Z2_457_20) ok_X2_init rfl (Nat.le_of_ble_eq_true rfl) (by decide +kernel) (show 0 < 2 by decide) rfl ?_
  change q_J g m_X2_init d 15 1490 _ [] _ 15 1490 (47, [some (.ref 457), some (.ref 402)], [], q_Z2_457_21)
  refine q_go 2 (c' := (49, [some (.ref 457), some (.ref 402)], [.int 0, .ref 457], q_Z2_457_21)) ok_X2_init rfl ?_
  refine q_o_putI (h := q_Z2_457_21) ok_X2_init rfl (Nat.le_of_ble_eq_true rfl) (by decide +kernel) (show 0 < 2 by decide) rfl ?_
  change q_J g m_X2_init d 15 1490 _ [] _ 15 1490 (50, [some (.ref 457), some (.ref 402)], [], q_Z2_457_22)
  refine q_go 2 (c' := (52, [some (.ref 457), some (.ref 402)], [.int 0, .ref 457], q_Z2_457_22)) ok_X2_init rfl ?_
  refine q_o_putI (h := q_Z2_457_22) ok_X2_init rfl (Nat.le_of_ble_eq_true rfl) (by decide +kernel) (show 0 < 2 by decide) rfl ?_
  change q_J g m_X2_init d 15 1490 _ [] _ 15 1490 (53, [some (.ref 457), some (.ref 402)], [], q_Z2_457_23)
  refine q_go 2 (c' := (55, [some (.ref 457), some (.ref 402)], [.ref 402, .ref 457], q_Z2_457_23)) ok_X2_init rfl ?_
  refine q_o_putR (h := q_Z2_457_23) ok_X2_init rfl (Nat.le_of_ble_eq_true rfl) (by decide +kernel) (show 0 < 2 by decide) rfl ?_
  change q_J g m_X2_init d 15 1490 _ [] _ 15 1490 (56, [some (.ref 457), some (.ref 402)], [], q_Z2_457_24)
  refine q_go 2 (c' := (58, [some (.ref 457), some (.ref 402)], [.ref 402, .ref 457], q_Z2_457_24)) ok_X2_init rfl ?_
  refine q_callV (v := 0) (h := q_Z2_457_24) (M2 := m_X2_begin) (b := 457) (As := [.ref 402]) (rest := []) ok_X2_init ok_X2_begin rfl (by first | exact Or.inl rfl | exact Or.inr ⟨_, rfl⟩) cv_X2_begin (Nat.le_of_ble_eq_true rfl) (by decide +kernel) (show vwCl[1]? = some _ from rfl) rfl (ctn_X2_begin (d := 3) (Nat.le_refl _) (h := q_Z2_457_24) (a := 457) (p := 402) (b := 458) (l := 459) (o := 465) (r := 466) (k := 470) (by decide +kernel) (by decide +kernel) (by decide +kernel) (by decide +kernel) (by decide +kernel) (by decide +kernel) (by decide +kernel) (by decide +kernel) (by decide +kernel) (by decide +kernel) (by decide +kernel) (by decide +kernel) (by decide +kernel) (by decide +kernel) (by decide +kernel) (by decide +kernel) (by decide +kernel) (by decide +kernel) (by decide +kernel) (by decide +kernel) (by decide +kernel)) (Nat.le_trans (by decide) hd) (Nat.le_of_ble_eq_true rfl) (Nat.le_of_ble_eq_true rfl) (Nat.le_of_ble_eq_true rfl) (fun x hx => absurd hx List.not_mem_nil) (fun _ _ _ => List.not_mem_nil) (fun _ _ => List.not_mem_nil) rfl (fun v h' hq => ?_) (fun E9 h' hq => by cases hq.1)
  obtain ⟨e1, e2⟩ := hq
  cases e1
  subst e2
  change q_J g m_X2_init d 15 1490 _ [] _ 15 1490 (59, [some (.ref 457), some (.ref 402)], [], q_Z2_457_25)
  exact q_o_vret ok_X2_init rfl rfl (Nat.le_of_ble_eq_true rfl) (Nat.le_of_ble_eq_true rfl) ⟨rfl, rfl⟩
def q_Z12_13 : q_H := q_Z2_457_25
def q_Z12_14 : q_H := q_hR q_Z12_13 400 4 457
def q_Z12_15 : q_H := q_new q_Z12_14 (0, 1, 0)
def q_Z2_473_1 : q_H := q_new q_Z12_15 (0, 0, 0)
def q_Z2_473_2 : q_H := q_F_X1_init 474 q_Z2_473_1
def q_Z2_473_3 : q_H := q_hR q_Z2_473_2 473 0 474
def q_Z2_473_4 : q_H := q_new q_Z2_473_3 (0, 4, 0)
def q_Z2_473_5 : q_H := q_F_X5_init 481 q_Z2_473_4
def q_Z2_473_6 : q_H := q_hR q_Z2_473_5 473 1 481
def q_Z2_473_7 : q_H := q_new q_Z2_473_6 (0, 3, 0)
def q_Z2_473_8 : q_H := q_F_X4_init 483 q_Z2_473_7
def q_Z2_473_9 : q_H := q_hR q_Z2_473_8 473 2 483
def q_Z2_473_10 : q_H := q_new q_Z2_473_9 (1, 0, 6)
def q_Z2_473_11 : q_H := q_hR q_Z2_473_10 473 3 486
def q_Z2_473_12 : q_H := q_new q_Z2_473_11 (1, 0, 64)
def q_Z2_473_13 : q_H := q_hR q_Z2_473_12 473 4 487
def q_Z2_473_14 : q_H := q_new q_Z2_473_13 (1, 0, 64)
def q_Z2_473_15 : q_H := q_hR q_Z2_473_14 473 5 488
def q_Z2_473_16 : q_H := q_hI q_Z2_473_15 473 7 0
def q_Z2_473_17 : q_H := q_hI q_Z2_473_16 473 8 0
def q_Z2_473_18 : q_H := q_hI q_Z2_473_17 473 9 0
def q_Z2_473_19 : q_H := q_hI q_Z2_473_18 473 10 0
def q_Z2_473_20 : q_H := q_hI q_Z2_473_19 473 11 0
def q_Z2_473_21 : q_H := q_hI q_Z2_473_20 473 12 0
def q_Z2_473_22 : q_H := q_hI q_Z2_473_21 473 13 0
def q_Z2_473_23 : q_H := q_hI q_Z2_473_22 473 14 0
def q_Z2_473_24 : q_H := q_hR q_Z2_473_23 473 6 402
def q_Z2_473_25 : q_H := q_F_X2_begin 473 402 475 481 482 486 q_Z2_473_24
theorem ctc_X2_init_473 {g : q_G} {d : Nat} (hd : 4 ≤ d) : q_Ct g m_X2_init d 15 1490 [] [.ref 473, .ref 402] q_Z12_15 (fun o h' => o = .inl none ∧ h' = q_Z2_473_25) := by
  refine q_Ct_of ok_X2_init (Nat.le_of_ble_eq_true rfl) ?_ _ rfl rfl
  refine q_go 1 (c' := (1, [some (.ref 473), some (.ref 402)], [.ref 473], q_Z12_15)) ok_X2_init rfl ?_
  refine q_o_objInit ok_X2_init rfl rfl (Nat.le_trans (by decide) hd) (by decide) ?_
  refine q_go 1 (c' := (3, [some (.ref 473), some (.ref 402)], [.ref 473], q_Z12_15)) ok_X2_init rfl ?_
  refine q_o_new (h := q_Z12_15) ok_X2_init rfl rfl (show vwCl[0]? = some _ from rfl) q_i1_0 q_i2_0 (Nat.le_of_ble_eq_true rfl) (Nat.le_of_ble_eq_true rfl) ?_
  rw [show q_nx q_Z12_15 = 474 from by decide +kernel]
  change q_J g m_X2_init d 15 1490 _ [] _ 1 6 (4, [some (.ref 473), some (.ref 402)], [.ref 474, .ref 473], q_Z2_473_1)
  refine q_go 1 (c' := (5, [some (.ref 473), some (.ref 402)], [.ref 474, .ref 474, .ref 473], q_Z2_473_1)) ok_X2_init rfl ?_
  refine q_callI (h := q_Z2_473_1) (M2 := m_X1_init) (b := 474) (As := []) (rest := [.ref 474, .ref 473]) ok_X2_init ok_X1_init rfl (by first | exact Or.inl rfl | exact Or.inr ⟨_, rfl⟩) ci_X1_init rfl (ctn_X1_init (d := 2) (Nat.le_refl _) (h := q_Z2_473_1) (a := 474) (by decide +kernel) (by decide +kernel) (by decide +kernel)) (Nat.le_trans (by decide) hd) (Nat.le_of_ble_eq_true rfl) (Nat.le_of_ble_eq_true rfl) (Nat.le_of_ble_eq_true rfl) (fun x hx => absurd hx List.not_mem_nil) (fun _ _ _ => List.not_mem_nil) (fun _ _ => List.not_mem_nil) rfl (fun v h' hq => ?_) (fun E9 h' hq => by cases hq.1)
  obtain ⟨e1, e2⟩ := hq
  cases e1
  subst e2
  change q_J g m_X2_init d 15 1490 _ [] _ 7 1030 (6, [some (.ref 473), some (.ref 402)], [.ref 474, .ref 473], q_Z2_473_2)
  refine q_o_putR (h := q_Z2_473_2) ok_X2_init rfl (Nat.le_of_ble_eq_true rfl) (by decide +kernel) (show 0 < 2 by decide) rfl ?_
  change q_J g m_X2_init d 15 1490 _ [] _ 7 1030 (7, [some (.ref 473), some (.ref 402)], [], q_Z2_473_3)
  refine q_go 1 (c' := (8, [some (.ref 473), some (.ref 402)], [.ref 473], q_Z2_473_3)) ok_X2_init rfl ?_
  refine q_o_new (h := q_Z2_473_3) ok_X2_init rfl rfl (show vwCl[4]? = some _ from rfl) q_i1_4 q_i2_4 (Nat.le_of_ble_eq_true rfl) (Nat.le_of_ble_eq_true rfl) ?_
  rw [show q_nx q_Z2_473_3 = 481 from by decide +kernel]
  change q_J g m_X2_init d 15 1490 _ [] _ 8 1033 (9, [some (.ref 473), some (.ref 402)], [.ref 481, .ref 473], q_Z2_473_4)
  refine q_go 1 (c' := (10, [some (.ref 473), some (.ref 402)], [.ref 481, .ref 481, .ref 473], q_Z2_473_4)) ok_X2_init rfl ?_
  refine q_callI (h := q_Z2_473_4) (M2 := m_X5_init) (b := 481) (As := []) (rest := [.ref 481, .ref 473]) ok_X2_init ok_X5_init rfl (by first | exact Or.inl rfl | exact Or.inr ⟨_, rfl⟩) ci_X5_init rfl (ctn_X5_init (d := 2) (Nat.le_refl _) (h := q_Z2_473_4) (a := 481) (by decide +kernel) (by decide +kernel) (by decide +kernel)) (Nat.le_trans (by decide) hd) (Nat.le_of_ble_eq_true rfl) (Nat.le_of_ble_eq_true rfl) (Nat.le_of_ble_eq_true rfl) (fun x hx => absurd hx List.not_mem_nil) (fun _ _ _ => List.not_mem_nil) (fun _ _ => List.not_mem_nil) rfl (fun v h' hq => ?_) (fun E9 h' hq => by cases hq.1)
  obtain ⟨e1, e2⟩ := hq
  cases e1
  subst e2
  change q_J g m_X2_init d 15 1490 _ [] _ 9 1097 (11, [some (.ref 473), some (.ref 402)], [.ref 481, .ref 473], q_Z2_473_5)
  refine q_o_putR (h := q_Z2_473_5) ok_X2_init rfl (Nat.le_of_ble_eq_true rfl) (by decide +kernel) (show 0 < 2 by decide) rfl ?_
  change q_J g m_X2_init d 15 1490 _ [] _ 9 1097 (12, [some (.ref 473), some (.ref 402)], [], q_Z2_473_6)
  refine q_go 1 (c' := (13, [some (.ref 473), some (.ref 402)], [.ref 473], q_Z2_473_6)) ok_X2_init rfl ?_
  refine q_o_new (h := q_Z2_473_6) ok_X2_init rfl rfl (show vwCl[3]? = some _ from rfl) q_i1_3 q_i2_3 (Nat.le_of_ble_eq_true rfl) (Nat.le_of_ble_eq_true rfl) ?_
  rw [show q_nx q_Z2_473_6 = 483 from by decide +kernel]
  change q_J g m_X2_init d 15 1490 _ [] _ 10 1100 (14, [some (.ref 473), some (.ref 402)], [.ref 483, .ref 473], q_Z2_473_7)
  refine q_go 1 (c' := (15, [some (.ref 473), some (.ref 402)], [.ref 483, .ref 483, .ref 473], q_Z2_473_7)) ok_X2_init rfl ?_
  refine q_callI (h := q_Z2_473_7) (M2 := m_X4_init) (b := 483) (As := []) (rest := [.ref 483, .ref 473]) ok_X2_init ok_X4_init rfl (by first | exact Or.inl rfl | exact Or.inr ⟨_, rfl⟩) ci_X4_init rfl (ctn_X4_init (d := 2) (Nat.le_refl _) (h := q_Z2_473_7) (a := 483) (by decide +kernel) (by decide +kernel) (by decide +kernel)) (Nat.le_trans (by decide) hd) (Nat.le_of_ble_eq_true rfl) (Nat.le_of_ble_eq_true rfl) (Nat.le_of_ble_eq_true rfl) (fun x hx => absurd hx List.not_mem_nil) (fun _ _ _ => List.not_mem_nil) (fun _ _ => List.not_mem_nil) rfl (fun v h' hq => ?_) (fun E9 h' hq => by cases hq.1)
  obtain ⟨e1, e2⟩ := hq
  cases e1
  subst e2
  change q_J g m_X2_init d 15 1490 _ [] _ 12 1356 (16, [some (.ref 473), some (.ref 402)], [.ref 483, .ref 473], q_Z2_473_8)
  refine q_o_putR (h := q_Z2_473_8) ok_X2_init rfl (Nat.le_of_ble_eq_true rfl) (by decide +kernel) (show 0 < 2 by decide) rfl ?_
  change q_J g m_X2_init d 15 1490 _ [] _ 12 1356 (17, [some (.ref 473), some (.ref 402)], [], q_Z2_473_9)
  refine q_go 2 (c' := (19, [some (.ref 473), some (.ref 402)], [.int 6, .ref 473], q_Z2_473_9)) ok_X2_init rfl ?_
  refine q_o_newarrI (h := q_Z2_473_9) ok_X2_init rfl (show (6 : Int32) = nI 6 from rfl) (by decide) (Nat.le_of_ble_eq_true rfl) (Nat.le_of_ble_eq_true rfl) ?_
  rw [show q_nx q_Z2_473_9 = 486 from by decide +kernel]
  change q_J g m_X2_init d 15 1490 _ [] _ 13 1362 (20, [some (.ref 473), some (.ref 402)], [.ref 486, .ref 473], q_Z2_473_10)
  refine q_o_putR (h := q_Z2_473_10) ok_X2_init rfl (Nat.le_of_ble_eq_true rfl) (by decide +kernel) (show 0 < 2 by decide) rfl ?_
  change q_J g m_X2_init d 15 1490 _ [] _ 13 1362 (21, [some (.ref 473), some (.ref 402)], [], q_Z2_473_11)
  refine q_go 2 (c' := (23, [some (.ref 473), some (.ref 402)], [.int 64, .ref 473], q_Z2_473_11)) ok_X2_init rfl ?_
  refine q_o_newarrI (h := q_Z2_473_11) ok_X2_init rfl (show (64 : Int32) = nI 64 from rfl) (by decide) (Nat.le_of_ble_eq_true rfl) (Nat.le_of_ble_eq_true rfl) ?_
  rw [show q_nx q_Z2_473_11 = 487 from by decide +kernel]
  change q_J g m_X2_init d 15 1490 _ [] _ 14 1426 (24, [some (.ref 473), some (.ref 402)], [.ref 487, .ref 473], q_Z2_473_12)
  refine q_o_putR (h := q_Z2_473_12) ok_X2_init rfl (Nat.le_of_ble_eq_true rfl) (by decide +kernel) (show 0 < 2 by decide) rfl ?_
  change q_J g m_X2_init d 15 1490 _ [] _ 14 1426 (25, [some (.ref 473), some (.ref 402)], [], q_Z2_473_13)
  refine q_go 2 (c' := (27, [some (.ref 473), some (.ref 402)], [.int 64, .ref 473], q_Z2_473_13)) ok_X2_init rfl ?_
  refine q_o_newarrI (h := q_Z2_473_13) ok_X2_init rfl (show (64 : Int32) = nI 64 from rfl) (by decide) (Nat.le_of_ble_eq_true rfl) (Nat.le_of_ble_eq_true rfl) ?_
  rw [show q_nx q_Z2_473_13 = 488 from by decide +kernel]
  change q_J g m_X2_init d 15 1490 _ [] _ 15 1490 (28, [some (.ref 473), some (.ref 402)], [.ref 488, .ref 473], q_Z2_473_14)
  refine q_o_putR (h := q_Z2_473_14) ok_X2_init rfl (Nat.le_of_ble_eq_true rfl) (by decide +kernel) (show 0 < 2 by decide) rfl ?_
  change q_J g m_X2_init d 15 1490 _ [] _ 15 1490 (29, [some (.ref 473), some (.ref 402)], [], q_Z2_473_15)
  refine q_go 2 (c' := (31, [some (.ref 473), some (.ref 402)], [.int 0, .ref 473], q_Z2_473_15)) ok_X2_init rfl ?_
  refine q_o_putI (h := q_Z2_473_15) ok_X2_init rfl (Nat.le_of_ble_eq_true rfl) (by decide +kernel) (show 0 < 2 by decide) rfl ?_
  change q_J g m_X2_init d 15 1490 _ [] _ 15 1490 (32, [some (.ref 473), some (.ref 402)], [], q_Z2_473_16)
  refine q_go 2 (c' := (34, [some (.ref 473), some (.ref 402)], [.int 0, .ref 473], q_Z2_473_16)) ok_X2_init rfl ?_
  refine q_o_putI (h := q_Z2_473_16) ok_X2_init rfl (Nat.le_of_ble_eq_true rfl) (by decide +kernel) (show 0 < 2 by decide) rfl ?_
  change q_J g m_X2_init d 15 1490 _ [] _ 15 1490 (35, [some (.ref 473), some (.ref 402)], [], q_Z2_473_17)
  refine q_go 2 (c' := (37, [some (.ref 473), some (.ref 402)], [.int 0, .ref 473], q_Z2_473_17)) ok_X2_init rfl ?_
  refine q_o_putI (h := q_Z2_473_17) ok_X2_init rfl (Nat.le_of_ble_eq_true rfl) (by decide +kernel) (show 0 < 2 by decide) rfl ?_
  change q_J g m_X2_init d 15 1490 _ [] _ 15 1490 (38, [some (.ref 473), some (.ref 402)], [], q_Z2_473_18)
  refine q_go 2 (c' := (40, [some (.ref 473), some (.ref 402)], [.int 0, .ref 473], q_Z2_473_18)) ok_X2_init rfl ?_
  refine q_o_putI (h := q_Z2_473_18) ok_X2_init rfl (Nat.le_of_ble_eq_true rfl) (by decide +kernel) (show 0 < 2 by decide) rfl ?_
  change q_J g m_X2_init d 15 1490 _ [] _ 15 1490 (41, [some (.ref 473), some (.ref 402)], [], q_Z2_473_19)
  refine q_go 2 (c' := (43, [some (.ref 473), some (.ref 402)], [.int 0, .ref 473], q_Z2_473_19)) ok_X2_init rfl ?_
  refine q_o_putI (h := q_Z2_473_19) ok_X2_init rfl (Nat.le_of_ble_eq_true rfl) (by decide +kernel) (show 0 < 2 by decide) rfl ?_
  change q_J g m_X2_init d 15 1490 _ [] _ 15 1490 (44, [some (.ref 473), some (.ref 402)], [], q_Z2_473_20)
  refine q_go 2 (c' := (46, [some (.ref 473), some (.ref 402)], [.int 0, .ref 473], q_Z2_473_20)) ok_X2_init rfl ?_
  refine q_o_putI (h := q_Z2_473_20) ok_X2_init rfl (Nat.le_of_ble_eq_true rfl) (by decide +kernel) (show 0 < 2 by decide) rfl ?_
  change q_J g m_X2_init d 15 1490 _ [] _ 15 1490 (47, [some (.ref 473), some (.ref 402)], [], q_Z2_473_21)
  refine q_go 2 (c' := (49, [some (.ref 473), some (.ref 402)], [.int 0, .ref 473], q_Z2_473_21)) ok_X2_init rfl ?_
  refine q_o_putI (h := q_Z2_473_21) ok_X2_init rfl (Nat.le_of_ble_eq_true rfl) (by decide +kernel) (show 0 < 2 by decide) rfl ?_
  change q_J g m_X2_init d 15 1490 _ [] _ 15 1490 (50, [some (.ref 473), some (.ref 402)], [], q_Z2_473_22)
  refine q_go 2 (c' := (52, [some (.ref 473), some (.ref 402)], [.int 0, .ref 473], q_Z2_473_22)) ok_X2_init rfl ?_
  refine q_o_putI (h := q_Z2_473_22) ok_X2_init rfl (Nat.le_of_ble_eq_true rfl) (by decide +kernel) (show 0 < 2 by decide) rfl ?_
  change q_J g m_X2_init d 15 1490 _ [] _ 15 1490 (53, [some (.ref 473), some (.ref 402)], [], q_Z2_473_23)
  refine q_go 2 (c' := (55, [some (.ref 473), some (.ref 402)], [.ref 402, .ref 473], q_Z2_473_23)) ok_X2_init rfl ?_
  refine q_o_putR (h := q_Z2_473_23) ok_X2_init rfl (Nat.le_of_ble_eq_true rfl) (by decide +kernel) (show 0 < 2 by decide) rfl ?_
  change q_J g m_X2_init d 15 1490 _ [] _ 15 1490 (56, [some (.ref 473), some (.ref 402)], [], q_Z2_473_24)
  refine q_go 2 (c' := (58, [some (.ref 473), some (.ref 402)], [.ref 402, .ref 473], q_Z2_473_24)) ok_X2_init rfl ?_
  refine q_callV (v := 0) (h := q_Z2_473_24) (M2 := m_X2_begin) (b := 473) (As := [.ref 402]) (rest := []) ok_X2_init ok_X2_begin rfl (by first | exact Or.inl rfl | exact Or.inr ⟨_, rfl⟩) cv_X2_begin (Nat.le_of_ble_eq_true rfl) (by decide +kernel) (show vwCl[1]? = some _ from rfl) rfl (ctn_X2_begin (d := 3) (Nat.le_refl _) (h := q_Z2_473_24) (a := 473) (p := 402) (b := 474) (l := 475) (o := 481) (r := 482) (k := 486) (by decide +kernel) (by decide +kernel) (by decide +kernel) (by decide +kernel) (by decide +kernel) (by decide +kernel) (by decide +kernel) (by decide +kernel) (by decide +kernel) (by decide +kernel) (by decide +kernel) (by decide +kernel) (by decide +kernel) (by decide +kernel) (by decide +kernel) (by decide +kernel) (by decide +kernel) (by decide +kernel) (by decide +kernel) (by decide +kernel) (by decide +kernel)) (Nat.le_trans (by decide) hd) (Nat.le_of_ble_eq_true rfl) (Nat.le_of_ble_eq_true rfl) (Nat.le_of_ble_eq_true rfl) (fun x hx => absurd hx List.not_mem_nil) (fun _ _ _ => List.not_mem_nil) (fun _ _ => List.not_mem_nil) rfl (fun v h' hq => ?_) (fun E9 h' hq => by cases hq.1)
  obtain ⟨e1, e2⟩ := hq
  cases e1
  subst e2
  change q_J g m_X2_init d 15 1490 _ [] _ 15 1490 (59, [some (.ref 473), some (.ref 402)], [], q_Z2_473_25)
  exact q_o_vret ok_X2_init rfl rfl (Nat.le_of_ble_eq_true rfl) (Nat.le_of_ble_eq_true rfl) ⟨rfl, rfl⟩
def q_Z12_16 : q_H := q_Z2_473_25
def q_Z12_17 : q_H := q_hR q_Z12_16 400 5 473
def q_Z12_18 : q_H := q_new q_Z12_17 (0, 2, 0)
def q_Z12_19 : q_H := q_F_X3_init 489 q_Z12_18
def q_Z12_20 : q_H := q_hR q_Z12_19 400 6 489
def q_Z12_21 : q_H := q_hI q_Z12_20 400 7 0
def q_Z12_22 : q_H := q_hI q_Z12_21 400 8 (-1)
theorem ctc_X12_init_400 {g : q_G} {d : Nat} (hd : 5 ≤ d) : q_Ct g m_X12_init d 91 9014 [] [.ref 400] q_h01 (fun o h' => o = .inl none ∧ h' = q_Z12_22) := by
  refine q_Ct_of ok_X12_init (Nat.le_of_ble_eq_true rfl) ?_ _ rfl rfl
  refine q_go 1 (c' := (1, [some (.ref 400)], [.ref 400], q_h01)) ok_X12_init rfl ?_
  refine q_o_objInit ok_X12_init rfl rfl (Nat.le_trans (by decide) hd) (by decide) ?_
  refine q_go 2 (c' := (4, [some (.ref 400)], [.int 2000, .ref 400], q_h01)) ok_X12_init rfl ?_
  refine q_o_newarrB (h := q_h01) ok_X12_init rfl (show (2000 : Int32) = nI 2000 from rfl) (by decide) (Nat.le_of_ble_eq_true rfl) (Nat.le_of_ble_eq_true rfl) ?_
  rw [show q_nx q_h01 = 401 from by decide +kernel]
  change q_J g m_X12_init d 91 9014 _ [] _ 1 2000 (5, [some (.ref 400)], [.ref 401, .ref 400], q_Z12_1)
  refine q_o_putR (h := q_Z12_1) ok_X12_init rfl (Nat.le_of_ble_eq_true rfl) (by decide +kernel) (show 0 < 2 by decide) rfl ?_
  change q_J g m_X12_init d 91 9014 _ [] _ 1 2000 (6, [some (.ref 400)], [], q_Z12_2)
  refine q_go 1 (c' := (7, [some (.ref 400)], [.ref 400], q_Z12_2)) ok_X12_init rfl ?_
  refine q_o_new (h := q_Z12_2) ok_X12_init rfl rfl (show vwCl[5]? = some _ from rfl) q_i1_5 q_i2_5 (Nat.le_of_ble_eq_true rfl) (Nat.le_of_ble_eq_true rfl) ?_
  rw [show q_nx q_Z12_2 = 402 from by decide +kernel]
  change q_J g m_X12_init d 91 9014 _ [] _ 2 2009 (8, [some (.ref 400)], [.ref 402, .ref 400], q_Z12_3)
  refine q_go 1 (c' := (9, [some (.ref 400)], [.ref 402, .ref 402, .ref 400], q_Z12_3)) ok_X12_init rfl ?_
  refine q_callI (h := q_Z12_3) (M2 := m_X6_init) (b := 402) (As := []) (rest := [.ref 402, .ref 400]) ok_X12_init ok_X6_init rfl (by first | exact Or.inl rfl | exact Or.inr ⟨_, rfl⟩) ci_X6_init rfl (ctn_X6_init (d := 3) (Nat.le_refl _) (h := q_Z12_3) (a := 402) (by decide +kernel) (by decide +kernel) (by decide +kernel)) (Nat.le_trans (by decide) hd) (Nat.le_of_ble_eq_true rfl) (Nat.le_of_ble_eq_true rfl) (Nat.le_of_ble_eq_true rfl) (fun x hx => absurd hx List.not_mem_nil) (fun _ _ _ => List.not_mem_nil) (fun _ _ => List.not_mem_nil) rfl (fun v h' hq => ?_) (fun E9 h' hq => by cases hq.1)
  obtain ⟨e1, e2⟩ := hq
  cases e1
  subst e2
  change q_J g m_X12_init d 91 9014 _ [] _ 25 2989 (10, [some (.ref 400)], [.ref 402, .ref 400], q_Z12_4)
  refine q_o_putR (h := q_Z12_4) ok_X12_init rfl (Nat.le_of_ble_eq_true rfl) (by decide +kernel) (show 0 < 2 by decide) rfl ?_
  change q_J g m_X12_init d 91 9014 _ [] _ 25 2989 (11, [some (.ref 400)], [], q_Z12_5)
  refine q_go 1 (c' := (12, [some (.ref 400)], [.ref 400], q_Z12_5)) ok_X12_init rfl ?_
  refine q_o_new (h := q_Z12_5) ok_X12_init rfl rfl (show vwCl[5]? = some _ from rfl) q_i1_5 q_i2_5 (Nat.le_of_ble_eq_true rfl) (Nat.le_of_ble_eq_true rfl) ?_
  rw [show q_nx q_Z12_5 = 426 from by decide +kernel]
  change q_J g m_X12_init d 91 9014 _ [] _ 26 2998 (13, [some (.ref 400)], [.ref 426, .ref 400], q_Z12_6)
  refine q_go 1 (c' := (14, [some (.ref 400)], [.ref 426, .ref 426, .ref 400], q_Z12_6)) ok_X12_init rfl ?_
  refine q_callI (h := q_Z12_6) (M2 := m_X6_init) (b := 426) (As := []) (rest := [.ref 426, .ref 400]) ok_X12_init ok_X6_init rfl (by first | exact Or.inl rfl | exact Or.inr ⟨_, rfl⟩) ci_X6_init rfl (ctn_X6_init (d := 3) (Nat.le_refl _) (h := q_Z12_6) (a := 426) (by decide +kernel) (by decide +kernel) (by decide +kernel)) (Nat.le_trans (by decide) hd) (Nat.le_of_ble_eq_true rfl) (Nat.le_of_ble_eq_true rfl) (Nat.le_of_ble_eq_true rfl) (fun x hx => absurd hx List.not_mem_nil) (fun _ _ _ => List.not_mem_nil) (fun _ _ => List.not_mem_nil) rfl (fun v h' hq => ?_) (fun E9 h' hq => by cases hq.1)
  obtain ⟨e1, e2⟩ := hq
  cases e1
  subst e2
  change q_J g m_X12_init d 91 9014 _ [] _ 49 3978 (15, [some (.ref 400)], [.ref 426, .ref 400], q_Z12_7)
  refine q_o_putR (h := q_Z12_7) ok_X12_init rfl (Nat.le_of_ble_eq_true rfl) (by decide +kernel) (show 0 < 2 by decide) rfl ?_
  change q_J g m_X12_init d 91 9014 _ [] _ 49 3978 (16, [some (.ref 400)], [], q_Z12_8)
  refine q_go 1 (c' := (17, [some (.ref 400)], [.ref 400], q_Z12_8)) ok_X12_init rfl ?_
  refine q_o_new (h := q_Z12_8) ok_X12_init rfl rfl (show vwCl[6]? = some _ from rfl) q_i1_6 q_i2_6 (Nat.le_of_ble_eq_true rfl) (Nat.le_of_ble_eq_true rfl) ?_
  rw [show q_nx q_Z12_8 = 450 from by decide +kernel]
  change q_J g m_X12_init d 91 9014 _ [] _ 50 3984 (18, [some (.ref 400)], [.ref 450, .ref 400], q_Z12_9)
  refine q_go 2 (c' := (20, [some (.ref 400)], [.ref 400, .ref 450, .ref 450, .ref 400], q_Z12_9)) ok_X12_init rfl ?_
  refine q_o_getR (v := 0) (h := q_Z12_9) ok_X12_init rfl (Nat.le_of_ble_eq_true rfl) (by decide +kernel) (by decide) rfl ?_
  rw [show q_R q_Z12_9 400 0 = some 401 from by decide +kernel]
  change q_J g m_X12_init d 91 9014 _ [] _ 50 3984 (21, [some (.ref 400)], [.ref 401, .ref 450, .ref 450, .ref 400], q_Z12_9)
  refine q_go 1 (c' := (22, [some (.ref 400)], [.ref 400, .ref 401, .ref 450, .ref 450, .ref 400], q_Z12_9)) ok_X12_init rfl ?_
  refine q_o_getR (v := 0) (h := q_Z12_9) ok_X12_init rfl (Nat.le_of_ble_eq_true rfl) (by decide +kernel) (by decide) rfl ?_
  rw [show q_R q_Z12_9 400 2 = some 426 from by decide +kernel]
  change q_J g m_X12_init d 91 9014 _ [] _ 50 3984 (23, [some (.ref 400)], [.ref 426, .ref 401, .ref 450, .ref 450, .ref 400], q_Z12_9)
  refine q_callI (h := q_Z12_9) (M2 := m_X7_init) (b := 450) (As := [.ref 401, .ref 426]) (rest := [.ref 450, .ref 400]) ok_X12_init ok_X7_init rfl (by first | exact Or.inl rfl | exact Or.inr ⟨_, rfl⟩) ci_X7_init rfl (ctn_X7_init (d := 3) (Nat.le_refl _) (h := q_Z12_9) (a := 450) (b1 := 401) (b2 := 426) (by decide +kernel) (by decide +kernel) (by decide +kernel)) (Nat.le_trans (by decide) hd) (Nat.le_of_ble_eq_true rfl) (Nat.le_of_ble_eq_true rfl) (Nat.le_of_ble_eq_true rfl) (fun x hx => absurd hx List.not_mem_nil) (fun _ _ _ => List.not_mem_nil) (fun _ _ => List.not_mem_nil) rfl (fun v h' hq => ?_) (fun E9 h' hq => by cases hq.1)
  obtain ⟨e1, e2⟩ := hq
  cases e1
  subst e2
  change q_J g m_X12_init d 91 9014 _ [] _ 56 5601 (24, [some (.ref 400)], [.ref 450, .ref 400], q_Z12_10)
  refine q_o_putR (h := q_Z12_10) ok_X12_init rfl (Nat.le_of_ble_eq_true rfl) (by decide +kernel) (show 0 < 2 by decide) rfl ?_
  change q_J g m_X12_init d 91 9014 _ [] _ 56 5601 (25, [some (.ref 400)], [], q_Z12_11)
  refine q_go 1 (c' := (26, [some (.ref 400)], [.ref 400], q_Z12_11)) ok_X12_init rfl ?_
  refine q_o_new (h := q_Z12_11) ok_X12_init rfl rfl (show vwCl[1]? = some _ from rfl) q_i1_1 q_i2_1 (Nat.le_of_ble_eq_true rfl) (Nat.le_of_ble_eq_true rfl) ?_
  rw [show q_nx q_Z12_11 = 457 from by decide +kernel]
  change q_J g m_X12_init d 91 9014 _ [] _ 57 5616 (27, [some (.ref 400)], [.ref 457, .ref 400], q_Z12_12)
  refine q_go 2 (c' := (29, [some (.ref 400)], [.ref 400, .ref 457, .ref 457, .ref 400], q_Z12_12)) ok_X12_init rfl ?_
  refine q_o_getR (v := 0) (h := q_Z12_12) ok_X12_init rfl (Nat.le_of_ble_eq_true rfl) (by decide +kernel) (by decide) rfl ?_
  rw [show q_R q_Z12_12 400 1 = some 402 from by decide +kernel]
  change q_J g m_X12_init d 91 9014 _ [] _ 57 5616 (30, [some (.ref 400)], [.ref 402, .ref 457, .ref 457, .ref 400], q_Z12_12)
  refine q_callI (h := q_Z12_12) (M2 := m_X2_init) (b := 457) (As := [.ref 402]) (rest := [.ref 457, .ref 400]) ok_X12_init ok_X2_init rfl (by first | exact Or.inl rfl | exact Or.inr ⟨_, rfl⟩) ci_X2_init rfl (ctc_X2_init_457 (d := 4) (Nat.le_refl _)) (Nat.le_trans (by decide) hd) (Nat.le_of_ble_eq_true rfl) (Nat.le_of_ble_eq_true rfl) (Nat.le_of_ble_eq_true rfl) (fun x hx => absurd hx List.not_mem_nil) (fun _ _ _ => List.not_mem_nil) (fun _ _ => List.not_mem_nil) rfl (fun v h' hq => ?_) (fun E9 h' hq => by cases hq.1)
  obtain ⟨e1, e2⟩ := hq
  cases e1
  subst e2
  change q_J g m_X12_init d 91 9014 _ [] _ 72 7106 (31, [some (.ref 400)], [.ref 457, .ref 400], q_Z12_13)
  refine q_o_putR (h := q_Z12_13) ok_X12_init rfl (Nat.le_of_ble_eq_true rfl) (by decide +kernel) (show 0 < 2 by decide) rfl ?_
  change q_J g m_X12_init d 91 9014 _ [] _ 72 7106 (32, [some (.ref 400)], [], q_Z12_14)
  refine q_go 1 (c' := (33, [some (.ref 400)], [.ref 400], q_Z12_14)) ok_X12_init rfl ?_
  refine q_o_new (h := q_Z12_14) ok_X12_init rfl rfl (show vwCl[1]? = some _ from rfl) q_i1_1 q_i2_1 (Nat.le_of_ble_eq_true rfl) (Nat.le_of_ble_eq_true rfl) ?_
  rw [show q_nx q_Z12_14 = 473 from by decide +kernel]
  change q_J g m_X12_init d 91 9014 _ [] _ 73 7121 (34, [some (.ref 400)], [.ref 473, .ref 400], q_Z12_15)
  refine q_go 2 (c' := (36, [some (.ref 400)], [.ref 400, .ref 473, .ref 473, .ref 400], q_Z12_15)) ok_X12_init rfl ?_
  refine q_o_getR (v := 0) (h := q_Z12_15) ok_X12_init rfl (Nat.le_of_ble_eq_true rfl) (by decide +kernel) (by decide) rfl ?_
  rw [show q_R q_Z12_15 400 1 = some 402 from by decide +kernel]
  change q_J g m_X12_init d 91 9014 _ [] _ 73 7121 (37, [some (.ref 400)], [.ref 402, .ref 473, .ref 473, .ref 400], q_Z12_15)
  refine q_callI (h := q_Z12_15) (M2 := m_X2_init) (b := 473) (As := [.ref 402]) (rest := [.ref 473, .ref 400]) ok_X12_init ok_X2_init rfl (by first | exact Or.inl rfl | exact Or.inr ⟨_, rfl⟩) ci_X2_init rfl (ctc_X2_init_473 (d := 4) (Nat.le_refl _)) (Nat.le_trans (by decide) hd) (Nat.le_of_ble_eq_true rfl) (Nat.le_of_ble_eq_true rfl) (Nat.le_of_ble_eq_true rfl) (fun x hx => absurd hx List.not_mem_nil) (fun _ _ _ => List.not_mem_nil) (fun _ _ => List.not_mem_nil) rfl (fun v h' hq => ?_) (fun E9 h' hq => by cases hq.1)
  obtain ⟨e1, e2⟩ := hq
  cases e1
  subst e2
  change q_J g m_X12_init d 91 9014 _ [] _ 88 8611 (38, [some (.ref 400)], [.ref 473, .ref 400], q_Z12_16)
  refine q_o_putR (h := q_Z12_16) ok_X12_init rfl (Nat.le_of_ble_eq_true rfl) (by decide +kernel) (show 0 < 2 by decide) rfl ?_
  change q_J g m_X12_init d 91 9014 _ [] _ 88 8611 (39, [some (.ref 400)], [], q_Z12_17)
  refine q_go 1 (c' := (40, [some (.ref 400)], [.ref 400], q_Z12_17)) ok_X12_init rfl ?_
  refine q_o_new (h := q_Z12_17) ok_X12_init rfl rfl (show vwCl[2]? = some _ from rfl) q_i1_2 q_i2_2 (Nat.le_of_ble_eq_true rfl) (Nat.le_of_ble_eq_true rfl) ?_
  rw [show q_nx q_Z12_17 = 489 from by decide +kernel]
  change q_J g m_X12_init d 91 9014 _ [] _ 89 8612 (41, [some (.ref 400)], [.ref 489, .ref 400], q_Z12_18)
  refine q_go 1 (c' := (42, [some (.ref 400)], [.ref 489, .ref 489, .ref 400], q_Z12_18)) ok_X12_init rfl ?_
  refine q_callI (h := q_Z12_18) (M2 := m_X3_init) (b := 489) (As := []) (rest := [.ref 489, .ref 400]) ok_X12_init ok_X3_init rfl (by first | exact Or.inl rfl | exact Or.inr ⟨_, rfl⟩) ci_X3_init rfl (ctn_X3_init (d := 3) (Nat.le_refl _) (h := q_Z12_18) (a := 489) (by decide +kernel) (by decide +kernel) (by decide +kernel)) (Nat.le_trans (by decide) hd) (Nat.le_of_ble_eq_true rfl) (Nat.le_of_ble_eq_true rfl) (Nat.le_of_ble_eq_true rfl) (fun x hx => absurd hx List.not_mem_nil) (fun _ _ _ => List.not_mem_nil) (fun _ _ => List.not_mem_nil) rfl (fun v h' hq => ?_) (fun E9 h' hq => by cases hq.1)
  obtain ⟨e1, e2⟩ := hq
  cases e1
  subst e2
  change q_J g m_X12_init d 91 9014 _ [] _ 91 9014 (43, [some (.ref 400)], [.ref 489, .ref 400], q_Z12_19)
  refine q_o_putR (h := q_Z12_19) ok_X12_init rfl (Nat.le_of_ble_eq_true rfl) (by decide +kernel) (show 0 < 2 by decide) rfl ?_
  change q_J g m_X12_init d 91 9014 _ [] _ 91 9014 (44, [some (.ref 400)], [], q_Z12_20)
  refine q_go 2 (c' := (46, [some (.ref 400)], [.int 0, .ref 400], q_Z12_20)) ok_X12_init rfl ?_
  refine q_o_putI (h := q_Z12_20) ok_X12_init rfl (Nat.le_of_ble_eq_true rfl) (by decide +kernel) (show 0 < 2 by decide) rfl ?_
  change q_J g m_X12_init d 91 9014 _ [] _ 91 9014 (47, [some (.ref 400)], [], q_Z12_21)
  refine q_go 2 (c' := (49, [some (.ref 400)], [.int (-1), .ref 400], q_Z12_21)) ok_X12_init rfl ?_
  refine q_o_putI (h := q_Z12_21) ok_X12_init rfl (Nat.le_of_ble_eq_true rfl) (by decide +kernel) (show 0 < 2 by decide) rfl ?_
  change q_J g m_X12_init d 91 9014 _ [] _ 91 9014 (50, [some (.ref 400)], [], q_Z12_22)
  exact q_o_vret ok_X12_init rfl rfl (Nat.le_of_ble_eq_true rfl) (Nat.le_of_ble_eq_true rfl) ⟨rfl, rfl⟩

