/-! the model, made -/
def q_h02 : q_H := q_new q_Z12_22 (0, 13, 0)
def q_Z15_1 : q_H := q_new q_h02 (1, 0, 2000)
def q_Z15_2 : q_H := q_hR q_Z15_1 492 1 493
def q_Z15_3 : q_H := q_hI q_Z15_2 492 3 (-1)
def q_Z15_4 : q_H := q_new q_Z15_3 (1, 0, 401)
def q_Z15_5 : q_H := q_hR q_Z15_4 492 4 494
def q_Z15_6 : q_H := q_new q_Z15_5 (1, 0, 401)
def q_Z15_7 : q_H := q_hR q_Z15_6 492 5 495
def q_Z15_8 : q_H := q_new q_Z15_7 (1, 0, 401)
def q_Z15_9 : q_H := q_hR q_Z15_8 492 6 496
def q_Z15_10 : q_H := q_new q_Z15_9 (1, 0, 401)
def q_Z15_11 : q_H := q_hR q_Z15_10 492 7 497
def q_Z15_12 : q_H := q_new q_Z15_11 (1, 0, 401)
def q_Z15_13 : q_H := q_hR q_Z15_12 492 8 498
def q_Z15_14 : q_H := q_new q_Z15_13 (0, 11, 0)
def q_Z15_15 : q_H := q_F_X13_init 499 q_Z15_14
def q_Z15_16 : q_H := q_hR q_Z15_15 492 11 499
def q_Z15_17 : q_H := q_hR q_Z15_16 492 12 499
def q_Z15_18 : q_H := q_new q_Z15_17 (1, 0, 400)
def q_Z15_19 : q_H := q_hR q_Z15_18 492 13 509
def q_Z15_20 : q_H := q_new q_Z15_19 (1, 0, 136)
def q_Z15_21 : q_H := q_hR q_Z15_20 492 14 510
def q_Z15_22 : q_H := q_new q_Z15_21 (1, 2, 136)
def q_Z15_23 : q_H := q_hR q_Z15_22 492 15 511
def q_Z15_24 : q_H := q_new q_Z15_23 (0, 12, 0)
def q_Z15_25 : q_H := q_F_X14_init 512 492 q_Z15_24
def q_Z15_26 : q_H := q_hR q_Z15_25 492 17 512
def q_Z15_27 : q_H := q_new q_Z15_26 (0, 12, 0)
def q_Z15_28 : q_H := q_F_X14_init 520 492 q_Z15_27
def q_Z15_29 : q_H := q_hR q_Z15_28 492 18 520
def q_Z15_30 : q_H := q_F_X14_begin 512 513 514 q_Z15_29
theorem ctc_X15_init_492 {g : q_G} {d : Nat} (hd : 3 ≤ d) : q_Ct g m_X15_init d 35 8253 [] [.ref 492] q_h02 (fun o h' => o = .inl none ∧ h' = q_Z15_30) := by
  refine q_Ct_of ok_X15_init (Nat.le_of_ble_eq_true rfl) ?_ _ rfl rfl
  refine q_go 1 (c' := (1, [some (.ref 492)], [.ref 492], q_h02)) ok_X15_init rfl ?_
  refine q_o_objInit ok_X15_init rfl rfl (Nat.le_trans (by decide) hd) (by decide) ?_
  refine q_go 2 (c' := (4, [some (.ref 492)], [.int 2000, .ref 492], q_h02)) ok_X15_init rfl ?_
  refine q_o_newarrI (h := q_h02) ok_X15_init rfl (show (2000 : Int32) = nI 2000 from rfl) (by decide) (Nat.le_of_ble_eq_true rfl) (Nat.le_of_ble_eq_true rfl) ?_
  rw [show q_nx q_h02 = 493 from by decide +kernel]
  change q_J g m_X15_init d 35 8253 _ [] _ 1 2000 (5, [some (.ref 492)], [.ref 493, .ref 492], q_Z15_1)
  refine q_o_putR (h := q_Z15_1) ok_X15_init rfl (Nat.le_of_ble_eq_true rfl) (by decide +kernel) (show 0 < 2 by decide) rfl ?_
  change q_J g m_X15_init d 35 8253 _ [] _ 1 2000 (6, [some (.ref 492)], [], q_Z15_2)
  refine q_go 2 (c' := (8, [some (.ref 492)], [.int (-1), .ref 492], q_Z15_2)) ok_X15_init rfl ?_
  refine q_o_putI (h := q_Z15_2) ok_X15_init rfl (Nat.le_of_ble_eq_true rfl) (by decide +kernel) (show 0 < 2 by decide) rfl ?_
  change q_J g m_X15_init d 35 8253 _ [] _ 1 2000 (9, [some (.ref 492)], [], q_Z15_3)
  refine q_go 2 (c' := (11, [some (.ref 492)], [.int 401, .ref 492], q_Z15_3)) ok_X15_init rfl ?_
  refine q_o_newarrI (h := q_Z15_3) ok_X15_init rfl (show (401 : Int32) = nI 401 from rfl) (by decide) (Nat.le_of_ble_eq_true rfl) (Nat.le_of_ble_eq_true rfl) ?_
  rw [show q_nx q_Z15_3 = 494 from by decide +kernel]
  change q_J g m_X15_init d 35 8253 _ [] _ 2 2401 (12, [some (.ref 492)], [.ref 494, .ref 492], q_Z15_4)
  refine q_o_putR (h := q_Z15_4) ok_X15_init rfl (Nat.le_of_ble_eq_true rfl) (by decide +kernel) (show 0 < 2 by decide) rfl ?_
  change q_J g m_X15_init d 35 8253 _ [] _ 2 2401 (13, [some (.ref 492)], [], q_Z15_5)
  refine q_go 2 (c' := (15, [some (.ref 492)], [.int 401, .ref 492], q_Z15_5)) ok_X15_init rfl ?_
  refine q_o_newarrI (h := q_Z15_5) ok_X15_init rfl (show (401 : Int32) = nI 401 from rfl) (by decide) (Nat.le_of_ble_eq_true rfl) (Nat.le_of_ble_eq_true rfl) ?_
  rw [show q_nx q_Z15_5 = 495 from by decide +kernel]
  change q_J g m_X15_init d 35 8253 _ [] _ 3 2802 (16, [some (.ref 492)], [.ref 495, .ref 492], q_Z15_6)
  refine q_o_putR (h := q_Z15_6) ok_X15_init rfl (Nat.le_of_ble_eq_true rfl) (by decide +kernel) (show 0 < 2 by decide) rfl ?_
  change q_J g m_X15_init d 35 8253 _ [] _ 3 2802 (17, [some (.ref 492)], [], q_Z15_7)
  refine q_go 2 (c' := (19, [some (.ref 492)], [.int 401, .ref 492], q_Z15_7)) ok_X15_init rfl ?_
  refine q_o_newarrI (h := q_Z15_7) ok_X15_init rfl (show (401 : Int32) = nI 401 from rfl) (by decide) (Nat.le_of_ble_eq_true rfl) (Nat.le_of_ble_eq_true rfl) ?_
  rw [show q_nx q_Z15_7 = 496 from by decide +kernel]
  change q_J g m_X15_init d 35 8253 _ [] _ 4 3203 (20, [some (.ref 492)], [.ref 496, .ref 492], q_Z15_8)
  refine q_o_putR (h := q_Z15_8) ok_X15_init rfl (Nat.le_of_ble_eq_true rfl) (by decide +kernel) (show 0 < 2 by decide) rfl ?_
  change q_J g m_X15_init d 35 8253 _ [] _ 4 3203 (21, [some (.ref 492)], [], q_Z15_9)
  refine q_go 2 (c' := (23, [some (.ref 492)], [.int 401, .ref 492], q_Z15_9)) ok_X15_init rfl ?_
  refine q_o_newarrI (h := q_Z15_9) ok_X15_init rfl (show (401 : Int32) = nI 401 from rfl) (by decide) (Nat.le_of_ble_eq_true rfl) (Nat.le_of_ble_eq_true rfl) ?_
  rw [show q_nx q_Z15_9 = 497 from by decide +kernel]
  change q_J g m_X15_init d 35 8253 _ [] _ 5 3604 (24, [some (.ref 492)], [.ref 497, .ref 492], q_Z15_10)
  refine q_o_putR (h := q_Z15_10) ok_X15_init rfl (Nat.le_of_ble_eq_true rfl) (by decide +kernel) (show 0 < 2 by decide) rfl ?_
  change q_J g m_X15_init d 35 8253 _ [] _ 5 3604 (25, [some (.ref 492)], [], q_Z15_11)
  refine q_go 2 (c' := (27, [some (.ref 492)], [.int 401, .ref 492], q_Z15_11)) ok_X15_init rfl ?_
  refine q_o_newarrI (h := q_Z15_11) ok_X15_init rfl (show (401 : Int32) = nI 401 from rfl) (by decide) (Nat.le_of_ble_eq_true rfl) (Nat.le_of_ble_eq_true rfl) ?_
  rw [show q_nx q_Z15_11 = 498 from by decide +kernel]
  change q_J g m_X15_init d 35 8253 _ [] _ 6 4005 (28, [some (.ref 492)], [.ref 498, .ref 492], q_Z15_12)
  refine q_o_putR (h := q_Z15_12) ok_X15_init rfl (Nat.le_of_ble_eq_true rfl) (by decide +kernel) (show 0 < 2 by decide) rfl ?_
  change q_J g m_X15_init d 35 8253 _ [] _ 6 4005 (29, [some (.ref 492)], [], q_Z15_13)
  refine q_go 1 (c' := (30, [some (.ref 492)], [.ref 492], q_Z15_13)) ok_X15_init rfl ?_
  refine q_o_new (h := q_Z15_13) ok_X15_init rfl rfl (show vwCl[11]? = some _ from rfl) q_i1_11 q_i2_11 (Nat.le_of_ble_eq_true rfl) (Nat.le_of_ble_eq_true rfl) ?_
  rw [show q_nx q_Z15_13 = 499 from by decide +kernel]
  change q_J g m_X15_init d 35 8253 _ [] _ 7 4022 (31, [some (.ref 492)], [.ref 499, .ref 492], q_Z15_14)
  refine q_go 1 (c' := (32, [some (.ref 492)], [.ref 499, .ref 499, .ref 492], q_Z15_14)) ok_X15_init rfl ?_
  refine q_callI (h := q_Z15_14) (M2 := m_X13_init) (b := 499) (As := []) (rest := [.ref 499, .ref 492]) ok_X15_init ok_X13_init rfl (by first | exact Or.inl rfl | exact Or.inr ⟨_, rfl⟩) ci_X13_init rfl (ctn_X13_init (d := 2) (Nat.le_refl _) (h := q_Z15_14) (a := 499) (by decide +kernel) (by decide +kernel) (by decide +kernel)) (Nat.le_trans (by decide) hd) (Nat.le_of_ble_eq_true rfl) (Nat.le_of_ble_eq_true rfl) (Nat.le_of_ble_eq_true rfl) (fun x hx => absurd hx List.not_mem_nil) (fun _ _ _ => List.not_mem_nil) (fun _ _ => List.not_mem_nil) rfl (fun v h' hq => ?_) (fun E9 h' hq => by cases hq.1)
  obtain ⟨e1, e2⟩ := hq
  cases e1
  subst e2
  change q_J g m_X15_init d 35 8253 _ [] _ 16 5365 (33, [some (.ref 492)], [.ref 499, .ref 492], q_Z15_15)
  refine q_o_putR (h := q_Z15_15) ok_X15_init rfl (Nat.le_of_ble_eq_true rfl) (by decide +kernel) (show 0 < 2 by decide) rfl ?_
  change q_J g m_X15_init d 35 8253 _ [] _ 16 5365 (34, [some (.ref 492)], [], q_Z15_16)
  refine q_go 2 (c' := (36, [some (.ref 492)], [.ref 492, .ref 492], q_Z15_16)) ok_X15_init rfl ?_
  refine q_o_getR (v := 0) (h := q_Z15_16) ok_X15_init rfl (Nat.le_of_ble_eq_true rfl) (by decide +kernel) (by decide) rfl ?_
  rw [show q_R q_Z15_16 492 11 = some 499 from by decide +kernel]
  change q_J g m_X15_init d 35 8253 _ [] _ 16 5365 (37, [some (.ref 492)], [.ref 499, .ref 492], q_Z15_16)
  refine q_o_putR (h := q_Z15_16) ok_X15_init rfl (Nat.le_of_ble_eq_true rfl) (by decide +kernel) (show 0 < 2 by decide) rfl ?_
  change q_J g m_X15_init d 35 8253 _ [] _ 16 5365 (38, [some (.ref 492)], [], q_Z15_17)
  refine q_go 2 (c' := (40, [some (.ref 492)], [.int 400, .ref 492], q_Z15_17)) ok_X15_init rfl ?_
  refine q_o_newarrI (h := q_Z15_17) ok_X15_init rfl (show (400 : Int32) = nI 400 from rfl) (by decide) (Nat.le_of_ble_eq_true rfl) (Nat.le_of_ble_eq_true rfl) ?_
  rw [show q_nx q_Z15_17 = 509 from by decide +kernel]
  change q_J g m_X15_init d 35 8253 _ [] _ 17 5765 (41, [some (.ref 492)], [.ref 509, .ref 492], q_Z15_18)
  refine q_o_putR (h := q_Z15_18) ok_X15_init rfl (Nat.le_of_ble_eq_true rfl) (by decide +kernel) (show 0 < 2 by decide) rfl ?_
  change q_J g m_X15_init d 35 8253 _ [] _ 17 5765 (42, [some (.ref 492)], [], q_Z15_19)
  refine q_go 2 (c' := (44, [some (.ref 492)], [.int 136, .ref 492], q_Z15_19)) ok_X15_init rfl ?_
  refine q_o_newarrI (h := q_Z15_19) ok_X15_init rfl (show (136 : Int32) = nI 136 from rfl) (by decide) (Nat.le_of_ble_eq_true rfl) (Nat.le_of_ble_eq_true rfl) ?_
  rw [show q_nx q_Z15_19 = 510 from by decide +kernel]
  change q_J g m_X15_init d 35 8253 _ [] _ 18 5901 (45, [some (.ref 492)], [.ref 510, .ref 492], q_Z15_20)
  refine q_o_putR (h := q_Z15_20) ok_X15_init rfl (Nat.le_of_ble_eq_true rfl) (by decide +kernel) (show 0 < 2 by decide) rfl ?_
  change q_J g m_X15_init d 35 8253 _ [] _ 18 5901 (46, [some (.ref 492)], [], q_Z15_21)
  refine q_go 2 (c' := (48, [some (.ref 492)], [.int 136, .ref 492], q_Z15_21)) ok_X15_init rfl ?_
  refine q_o_newarrZ (h := q_Z15_21) ok_X15_init rfl (show (136 : Int32) = nI 136 from rfl) (by decide) (Nat.le_of_ble_eq_true rfl) (Nat.le_of_ble_eq_true rfl) ?_
  rw [show q_nx q_Z15_21 = 511 from by decide +kernel]
  change q_J g m_X15_init d 35 8253 _ [] _ 19 6037 (49, [some (.ref 492)], [.ref 511, .ref 492], q_Z15_22)
  refine q_o_putR (h := q_Z15_22) ok_X15_init rfl (Nat.le_of_ble_eq_true rfl) (by decide +kernel) (show 0 < 2 by decide) rfl ?_
  change q_J g m_X15_init d 35 8253 _ [] _ 19 6037 (50, [some (.ref 492)], [], q_Z15_23)
  refine q_go 1 (c' := (51, [some (.ref 492)], [.ref 492], q_Z15_23)) ok_X15_init rfl ?_
  refine q_o_new (h := q_Z15_23) ok_X15_init rfl rfl (show vwCl[12]? = some _ from rfl) q_i1_12 q_i2_12 (Nat.le_of_ble_eq_true rfl) (Nat.le_of_ble_eq_true rfl) ?_
  rw [show q_nx q_Z15_23 = 512 from by decide +kernel]
  change q_J g m_X15_init d 35 8253 _ [] _ 20 6051 (52, [some (.ref 492)], [.ref 512, .ref 492], q_Z15_24)
  refine q_go 2 (c' := (54, [some (.ref 492)], [.ref 492, .ref 512, .ref 512, .ref 492], q_Z15_24)) ok_X15_init rfl ?_
  refine q_callI (h := q_Z15_24) (M2 := m_X14_init) (b := 512) (As := [.ref 492]) (rest := [.ref 512, .ref 492]) ok_X15_init ok_X14_init rfl (by first | exact Or.inl rfl | exact Or.inr ⟨_, rfl⟩) ci_X14_init rfl (ctn_X14_init (d := 2) (Nat.le_refl _) (h := q_Z15_24) (a := 512) (b1 := 492) (by decide +kernel) (by decide +kernel) (by decide +kernel)) (Nat.le_trans (by decide) hd) (Nat.le_of_ble_eq_true rfl) (Nat.le_of_ble_eq_true rfl) (Nat.le_of_ble_eq_true rfl) (fun x hx => absurd hx List.not_mem_nil) (fun _ _ _ => List.not_mem_nil) (fun _ _ => List.not_mem_nil) rfl (fun v h' hq => ?_) (fun E9 h' hq => by cases hq.1)
  obtain ⟨e1, e2⟩ := hq
  cases e1
  subst e2
  change q_J g m_X15_init d 35 8253 _ [] _ 27 7145 (55, [some (.ref 492)], [.ref 512, .ref 492], q_Z15_25)
  refine q_o_putR (h := q_Z15_25) ok_X15_init rfl (Nat.le_of_ble_eq_true rfl) (by decide +kernel) (show 0 < 2 by decide) rfl ?_
  change q_J g m_X15_init d 35 8253 _ [] _ 27 7145 (56, [some (.ref 492)], [], q_Z15_26)
  refine q_go 1 (c' := (57, [some (.ref 492)], [.ref 492], q_Z15_26)) ok_X15_init rfl ?_
  refine q_o_new (h := q_Z15_26) ok_X15_init rfl rfl (show vwCl[12]? = some _ from rfl) q_i1_12 q_i2_12 (Nat.le_of_ble_eq_true rfl) (Nat.le_of_ble_eq_true rfl) ?_
  rw [show q_nx q_Z15_26 = 520 from by decide +kernel]
  change q_J g m_X15_init d 35 8253 _ [] _ 28 7159 (58, [some (.ref 492)], [.ref 520, .ref 492], q_Z15_27)
  refine q_go 2 (c' := (60, [some (.ref 492)], [.ref 492, .ref 520, .ref 520, .ref 492], q_Z15_27)) ok_X15_init rfl ?_
  refine q_callI (h := q_Z15_27) (M2 := m_X14_init) (b := 520) (As := [.ref 492]) (rest := [.ref 520, .ref 492]) ok_X15_init ok_X14_init rfl (by first | exact Or.inl rfl | exact Or.inr ⟨_, rfl⟩) ci_X14_init rfl (ctn_X14_init (d := 2) (Nat.le_refl _) (h := q_Z15_27) (a := 520) (b1 := 492) (by decide +kernel) (by decide +kernel) (by decide +kernel)) (Nat.le_trans (by decide) hd) (Nat.le_of_ble_eq_true rfl) (Nat.le_of_ble_eq_true rfl) (Nat.le_of_ble_eq_true rfl) (fun x hx => absurd hx List.not_mem_nil) (fun _ _ _ => List.not_mem_nil) (fun _ _ => List.not_mem_nil) rfl (fun v h' hq => ?_) (fun E9 h' hq => by cases hq.1)
  obtain ⟨e1, e2⟩ := hq
  cases e1
  subst e2
  change q_J g m_X15_init d 35 8253 _ [] _ 35 8253 (61, [some (.ref 492)], [.ref 520, .ref 492], q_Z15_28)
  refine q_o_putR (h := q_Z15_28) ok_X15_init rfl (Nat.le_of_ble_eq_true rfl) (by decide +kernel) (show 0 < 2 by decide) rfl ?_
  change q_J g m_X15_init d 35 8253 _ [] _ 35 8253 (62, [some (.ref 492)], [], q_Z15_29)
  refine q_go 1 (c' := (63, [some (.ref 492)], [.ref 492], q_Z15_29)) ok_X15_init rfl ?_
  refine q_o_getR (v := 0) (h := q_Z15_29) ok_X15_init rfl (Nat.le_of_ble_eq_true rfl) (by decide +kernel) (by decide) rfl ?_
  rw [show q_R q_Z15_29 492 17 = some 512 from by decide +kernel]
  change q_J g m_X15_init d 35 8253 _ [] _ 35 8253 (64, [some (.ref 492)], [.ref 512], q_Z15_29)
  refine q_callV (v := 0) (h := q_Z15_29) (M2 := m_X14_begin) (b := 512) (As := []) (rest := []) ok_X15_init ok_X14_begin rfl (by first | exact Or.inl rfl | exact Or.inr ⟨_, rfl⟩) cv_X14_begin (Nat.le_of_ble_eq_true rfl) (by decide +kernel) (show vwCl[12]? = some _ from rfl) rfl (ctn_X14_begin (d := 1) (Nat.le_refl _) (h := q_Z15_29) (a := 512) (s := 513) (w := 514) (by decide +kernel) (by decide +kernel) (by decide +kernel) (by decide +kernel) (by decide +kernel) (by decide +kernel) (by decide +kernel) (by decide +kernel)) (Nat.le_trans (by decide) hd) (Nat.le_of_ble_eq_true rfl) (Nat.le_of_ble_eq_true rfl) (Nat.le_of_ble_eq_true rfl) (fun x hx => absurd hx List.not_mem_nil) (fun _ _ _ => List.not_mem_nil) (fun _ _ => List.not_mem_nil) rfl (fun v h' hq => ?_) (fun E9 h' hq => by cases hq.1)
  obtain ⟨e1, e2⟩ := hq
  cases e1
  subst e2
  change q_J g m_X15_init d 35 8253 _ [] _ 35 8253 (65, [some (.ref 492)], [], q_Z15_30)
  exact q_o_vret ok_X15_init rfl rfl (Nat.le_of_ble_eq_true rfl) (Nat.le_of_ble_eq_true rfl) ⟨rfl, rfl⟩

