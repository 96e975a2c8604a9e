/-! constructors, one by one -/
def q_X1_init_1 (a : Nat) (h : q_H) : q_H := q_new h (1, 0, 128)
theorem q_X1_init_sh1 {a : Nat} {h : q_H} {x : Nat} (hx : x < q_nx h) : q_sh (q_X1_init_1 a h) x = q_sh h x := (q_ur_n _ _ _ (show x ≠ (q_nx h) from by omega)).trans rfl
def q_X1_init_2 (a : Nat) (h : q_H) : q_H := q_hR (q_X1_init_1 a h) a 0 (q_nx h)
theorem q_X1_init_sh2 {a : Nat} {h : q_H} {x : Nat} (hx : x < q_nx h) : q_sh (q_X1_init_2 a h) x = q_sh h x := q_X1_init_sh1 (a := a) hx
def q_X1_init_3 (a : Nat) (h : q_H) : q_H := q_new (q_X1_init_2 a h) (1, 0, 128)
theorem q_X1_init_sh3 {a : Nat} {h : q_H} {x : Nat} (hx : x < q_nx h) : q_sh (q_X1_init_3 a h) x = q_sh h x := (q_ur_n _ _ _ (show x ≠ (q_nx h + 1) from by omega)).trans (q_X1_init_sh2 (a := a) hx)
def q_X1_init_4 (a : Nat) (h : q_H) : q_H := q_hR (q_X1_init_3 a h) a 1 (q_nx h + 1)
theorem q_X1_init_sh4 {a : Nat} {h : q_H} {x : Nat} (hx : x < q_nx h) : q_sh (q_X1_init_4 a h) x = q_sh h x := q_X1_init_sh3 (a := a) hx
def q_X1_init_5 (a : Nat) (h : q_H) : q_H := q_new (q_X1_init_4 a h) (1, 0, 128)
theorem q_X1_init_sh5 {a : Nat} {h : q_H} {x : Nat} (hx : x < q_nx h) : q_sh (q_X1_init_5 a h) x = q_sh h x := (q_ur_n _ _ _ (show x ≠ (q_nx h + 2) from by omega)).trans (q_X1_init_sh4 (a := a) hx)
def q_X1_init_6 (a : Nat) (h : q_H) : q_H := q_hR (q_X1_init_5 a h) a 2 (q_nx h + 2)
theorem q_X1_init_sh6 {a : Nat} {h : q_H} {x : Nat} (hx : x < q_nx h) : q_sh (q_X1_init_6 a h) x = q_sh h x := q_X1_init_sh5 (a := a) hx
def q_X1_init_7 (a : Nat) (h : q_H) : q_H := q_new (q_X1_init_6 a h) (1, 0, 128)
theorem q_X1_init_sh7 {a : Nat} {h : q_H} {x : Nat} (hx : x < q_nx h) : q_sh (q_X1_init_7 a h) x = q_sh h x := (q_ur_n _ _ _ (show x ≠ (q_nx h + 3) from by omega)).trans (q_X1_init_sh6 (a := a) hx)
def q_X1_init_8 (a : Nat) (h : q_H) : q_H := q_hR (q_X1_init_7 a h) a 3 (q_nx h + 3)
theorem q_X1_init_sh8 {a : Nat} {h : q_H} {x : Nat} (hx : x < q_nx h) : q_sh (q_X1_init_8 a h) x = q_sh h x := q_X1_init_sh7 (a := a) hx
def q_X1_init_9 (a : Nat) (h : q_H) : q_H := q_new (q_X1_init_8 a h) (1, 0, 128)
theorem q_X1_init_sh9 {a : Nat} {h : q_H} {x : Nat} (hx : x < q_nx h) : q_sh (q_X1_init_9 a h) x = q_sh h x := (q_ur_n _ _ _ (show x ≠ (q_nx h + 4) from by omega)).trans (q_X1_init_sh8 (a := a) hx)
def q_X1_init_10 (a : Nat) (h : q_H) : q_H := q_hR (q_X1_init_9 a h) a 4 (q_nx h + 4)
theorem q_X1_init_sh10 {a : Nat} {h : q_H} {x : Nat} (hx : x < q_nx h) : q_sh (q_X1_init_10 a h) x = q_sh h x := q_X1_init_sh9 (a := a) hx
def q_X1_init_11 (a : Nat) (h : q_H) : q_H := q_new (q_X1_init_10 a h) (1, 0, 384)
theorem q_X1_init_sh11 {a : Nat} {h : q_H} {x : Nat} (hx : x < q_nx h) : q_sh (q_X1_init_11 a h) x = q_sh h x := (q_ur_n _ _ _ (show x ≠ (q_nx h + 5) from by omega)).trans (q_X1_init_sh10 (a := a) hx)
def q_X1_init_12 (a : Nat) (h : q_H) : q_H := q_hR (q_X1_init_11 a h) a 5 (q_nx h + 5)
theorem q_X1_init_sh12 {a : Nat} {h : q_H} {x : Nat} (hx : x < q_nx h) : q_sh (q_X1_init_12 a h) x = q_sh h x := q_X1_init_sh11 (a := a) hx
abbrev q_F_X1_init (a : Nat) (h : q_H) : q_H := (q_X1_init_12 a h)
theorem fs_X1_init {a : Nat} {h : q_H} {x : Nat} (hx : x < q_nx h) : q_sh (q_F_X1_init a h) x = q_sh h x := q_X1_init_sh12 (a := a) hx
theorem fn_X1_init {a : Nat} {h : q_H} : q_nx (q_F_X1_init a h) = q_nx h + 6 := rfl
theorem ctn_X1_init {g : q_G} {d : Nat} (hd : 2 ≤ d) {h : q_H} {a : Nat} (ha : 400 ≤ a) (hlt : a < q_nx h) (hsh : q_sh h a = (0, 0, 0)) : q_Ct g m_X1_init d 6 1024 [] [.ref a] h (fun o h' => o = .inl none ∧ h' = q_F_X1_init a h) := by
  have hN : 400 ≤ q_nx h := by omega
  refine q_Ct_of ok_X1_init (Nat.le_of_ble_eq_true rfl) ?_ _ rfl rfl
  refine q_go 1 (c' := (1, [some (.ref a)], [.ref a], h)) ok_X1_init rfl ?_
  refine q_o_objInit ok_X1_init rfl rfl (Nat.le_trans (by decide) hd) (by decide) ?_
  refine q_go 2 (c' := (4, [some (.ref a)], [.int 128, .ref a], h)) ok_X1_init rfl ?_
  refine q_o_newarrI (h := h) ok_X1_init rfl (show (128 : Int32) = nI 128 from rfl) (by decide) (Nat.le_of_ble_eq_true rfl) (Nat.le_of_ble_eq_true rfl) ?_
  change q_J g m_X1_init d 6 1024 _ [] _ 1 128 (5, [some (.ref a)], [.ref (q_nx h), .ref a], (q_X1_init_1 a h))
  refine q_o_putR (h := (q_X1_init_1 a h)) ok_X1_init rfl (by omega) ((q_X1_init_sh1 (a := a) hlt).trans hsh) (show 0 < 2 by decide) rfl ?_
  change q_J g m_X1_init d 6 1024 _ [] _ 1 128 (6, [some (.ref a)], [], (q_X1_init_2 a h))
  refine q_go 2 (c' := (8, [some (.ref a)], [.int 128, .ref a], (q_X1_init_2 a h))) ok_X1_init rfl ?_
  refine q_o_newarrI (h := (q_X1_init_2 a h)) ok_X1_init rfl (show (128 : Int32) = nI 128 from rfl) (by decide) (Nat.le_of_ble_eq_true rfl) (Nat.le_of_ble_eq_true rfl) ?_
  change q_J g m_X1_init d 6 1024 _ [] _ 2 256 (9, [some (.ref a)], [.ref (q_nx h + 1), .ref a], (q_X1_init_3 a h))
  refine q_o_putR (h := (q_X1_init_3 a h)) ok_X1_init rfl (by omega) ((q_X1_init_sh3 (a := a) hlt).trans hsh) (show 0 < 2 by decide) rfl ?_
  change q_J g m_X1_init d 6 1024 _ [] _ 2 256 (10, [some (.ref a)], [], (q_X1_init_4 a h))
  refine q_go 2 (c' := (12, [some (.ref a)], [.int 128, .ref a], (q_X1_init_4 a h))) ok_X1_init rfl ?_
  refine q_o_newarrI (h := (q_X1_init_4 a h)) ok_X1_init rfl (show (128 : Int32) = nI 128 from rfl) (by decide) (Nat.le_of_ble_eq_true rfl) (Nat.le_of_ble_eq_true rfl) ?_
  change q_J g m_X1_init d 6 1024 _ [] _ 3 384 (13, [some (.ref a)], [.ref (q_nx h + 2), .ref a], (q_X1_init_5 a h))
  refine q_o_putR (h := (q_X1_init_5 a h)) ok_X1_init rfl (by omega) ((q_X1_init_sh5 (a := a) hlt).trans hsh) (show 0 < 2 by decide) rfl ?_
  change q_J g m_X1_init d 6 1024 _ [] _ 3 384 (14, [some (.ref a)], [], (q_X1_init_6 a h))
  refine q_go 2 (c' := (16, [some (.ref a)], [.int 128, .ref a], (q_X1_init_6 a h))) ok_X1_init rfl ?_
  refine q_o_newarrI (h := (q_X1_init_6 a h)) ok_X1_init rfl (show (128 : Int32) = nI 128 from rfl) (by decide) (Nat.le_of_ble_eq_true rfl) (Nat.le_of_ble_eq_true rfl) ?_
  change q_J g m_X1_init d 6 1024 _ [] _ 4 512 (17, [some (.ref a)], [.ref (q_nx h + 3), .ref a], (q_X1_init_7 a h))
  refine q_o_putR (h := (q_X1_init_7 a h)) ok_X1_init rfl (by omega) ((q_X1_init_sh7 (a := a) hlt).trans hsh) (show 0 < 2 by decide) rfl ?_
  change q_J g m_X1_init d 6 1024 _ [] _ 4 512 (18, [some (.ref a)], [], (q_X1_init_8 a h))
  refine q_go 2 (c' := (20, [some (.ref a)], [.int 128, .ref a], (q_X1_init_8 a h))) ok_X1_init rfl ?_
  refine q_o_newarrI (h := (q_X1_init_8 a h)) ok_X1_init rfl (show (128 : Int32) = nI 128 from rfl) (by decide) (Nat.le_of_ble_eq_true rfl) (Nat.le_of_ble_eq_true rfl) ?_
  change q_J g m_X1_init d 6 1024 _ [] _ 5 640 (21, [some (.ref a)], [.ref (q_nx h + 4), .ref a], (q_X1_init_9 a h))
  refine q_o_putR (h := (q_X1_init_9 a h)) ok_X1_init rfl (by omega) ((q_X1_init_sh9 (a := a) hlt).trans hsh) (show 0 < 2 by decide) rfl ?_
  change q_J g m_X1_init d 6 1024 _ [] _ 5 640 (22, [some (.ref a)], [], (q_X1_init_10 a h))
  refine q_go 2 (c' := (24, [some (.ref a)], [.int 384, .ref a], (q_X1_init_10 a h))) ok_X1_init rfl ?_
  refine q_o_newarrI (h := (q_X1_init_10 a h)) ok_X1_init rfl (show (384 : Int32) = nI 384 from rfl) (by decide) (Nat.le_of_ble_eq_true rfl) (Nat.le_of_ble_eq_true rfl) ?_
  change q_J g m_X1_init d 6 1024 _ [] _ 6 1024 (25, [some (.ref a)], [.ref (q_nx h + 5), .ref a], (q_X1_init_11 a h))
  refine q_o_putR (h := (q_X1_init_11 a h)) ok_X1_init rfl (by omega) ((q_X1_init_sh11 (a := a) hlt).trans hsh) (show 0 < 2 by decide) rfl ?_
  change q_J g m_X1_init d 6 1024 _ [] _ 6 1024 (26, [some (.ref a)], [], (q_X1_init_12 a h))
  exact q_o_vret ok_X1_init rfl rfl (Nat.le_of_ble_eq_true rfl) (Nat.le_of_ble_eq_true rfl) ⟨rfl, rfl⟩
def q_X4_init_1 (a : Nat) (h : q_H) : q_H := q_new h (1, 0, 128)
theorem q_X4_init_sh1 {a : Nat} {h : q_H} {x : Nat} (hx : x < q_nx h) : q_sh (q_X4_init_1 a h) x = q_sh h x := (q_ur_n _ _ _ (show x ≠ (q_nx h) from by omega)).trans rfl
def q_X4_init_2 (a : Nat) (h : q_H) : q_H := q_hR (q_X4_init_1 a h) a 0 (q_nx h)
theorem q_X4_init_sh2 {a : Nat} {h : q_H} {x : Nat} (hx : x < q_nx h) : q_sh (q_X4_init_2 a h) x = q_sh h x := q_X4_init_sh1 (a := a) hx
def q_X4_init_3 (a : Nat) (h : q_H) : q_H := q_new (q_X4_init_2 a h) (1, 0, 128)
theorem q_X4_init_sh3 {a : Nat} {h : q_H} {x : Nat} (hx : x < q_nx h) : q_sh (q_X4_init_3 a h) x = q_sh h x := (q_ur_n _ _ _ (show x ≠ (q_nx h + 1) from by omega)).trans (q_X4_init_sh2 (a := a) hx)
def q_X4_init_4 (a : Nat) (h : q_H) : q_H := q_hR (q_X4_init_3 a h) a 1 (q_nx h + 1)
theorem q_X4_init_sh4 {a : Nat} {h : q_H} {x : Nat} (hx : x < q_nx h) : q_sh (q_X4_init_4 a h) x = q_sh h x := q_X4_init_sh3 (a := a) hx
def q_X4_init_5 (a : Nat) (h : q_H) : q_H := q_hI (q_X4_init_4 a h) a 2 0
theorem q_X4_init_sh5 {a : Nat} {h : q_H} {x : Nat} (hx : x < q_nx h) : q_sh (q_X4_init_5 a h) x = q_sh h x := q_X4_init_sh4 (a := a) hx
abbrev q_F_X4_init (a : Nat) (h : q_H) : q_H := (q_X4_init_5 a h)
theorem fs_X4_init {a : Nat} {h : q_H} {x : Nat} (hx : x < q_nx h) : q_sh (q_F_X4_init a h) x = q_sh h x := q_X4_init_sh5 (a := a) hx
theorem fn_X4_init {a : Nat} {h : q_H} : q_nx (q_F_X4_init a h) = q_nx h + 2 := rfl
theorem ctn_X4_init {g : q_G} {d : Nat} (hd : 2 ≤ d) {h : q_H} {a : Nat} (ha : 400 ≤ a) (hlt : a < q_nx h) (hsh : q_sh h a = (0, 3, 0)) : q_Ct g m_X4_init d 2 256 [] [.ref a] h (fun o h' => o = .inl none ∧ h' = q_F_X4_init a h) := by
  have hN : 400 ≤ q_nx h := by omega
  refine q_Ct_of ok_X4_init (Nat.le_of_ble_eq_true rfl) ?_ _ rfl rfl
  refine q_go 1 (c' := (1, [some (.ref a)], [.ref a], h)) ok_X4_init rfl ?_
  refine q_o_objInit ok_X4_init rfl rfl (Nat.le_trans (by decide) hd) (by decide) ?_
  refine q_go 2 (c' := (4, [some (.ref a)], [.int 128, .ref a], h)) ok_X4_init rfl ?_
  refine q_o_newarrI (h := h) ok_X4_init rfl (show (128 : Int32) = nI 128 from rfl) (by decide) (Nat.le_of_ble_eq_true rfl) (Nat.le_of_ble_eq_true rfl) ?_
  change q_J g m_X4_init d 2 256 _ [] _ 1 128 (5, [some (.ref a)], [.ref (q_nx h), .ref a], (q_X4_init_1 a h))
  refine q_o_putR (h := (q_X4_init_1 a h)) ok_X4_init rfl (by omega) ((q_X4_init_sh1 (a := a) hlt).trans hsh) (show 0 < 2 by decide) rfl ?_
  change q_J g m_X4_init d 2 256 _ [] _ 1 128 (6, [some (.ref a)], [], (q_X4_init_2 a h))
  refine q_go 2 (c' := (8, [some (.ref a)], [.int 128, .ref a], (q_X4_init_2 a h))) ok_X4_init rfl ?_
  refine q_o_newarrI (h := (q_X4_init_2 a h)) ok_X4_init rfl (show (128 : Int32) = nI 128 from rfl) (by decide) (Nat.le_of_ble_eq_true rfl) (Nat.le_of_ble_eq_true rfl) ?_
  change q_J g m_X4_init d 2 256 _ [] _ 2 256 (9, [some (.ref a)], [.ref (q_nx h + 1), .ref a], (q_X4_init_3 a h))
  refine q_o_putR (h := (q_X4_init_3 a h)) ok_X4_init rfl (by omega) ((q_X4_init_sh3 (a := a) hlt).trans hsh) (show 0 < 2 by decide) rfl ?_
  change q_J g m_X4_init d 2 256 _ [] _ 2 256 (10, [some (.ref a)], [], (q_X4_init_4 a h))
  refine q_go 2 (c' := (12, [some (.ref a)], [.int 0, .ref a], (q_X4_init_4 a h))) ok_X4_init rfl ?_
  refine q_o_putI (h := (q_X4_init_4 a h)) ok_X4_init rfl (by omega) ((q_X4_init_sh4 (a := a) hlt).trans hsh) (show 0 < 2 by decide) rfl ?_
  change q_J g m_X4_init d 2 256 _ [] _ 2 256 (13, [some (.ref a)], [], (q_X4_init_5 a h))
  exact q_o_vret ok_X4_init rfl rfl (Nat.le_of_ble_eq_true rfl) (Nat.le_of_ble_eq_true rfl) ⟨rfl, rfl⟩
def q_X5_init_1 (a : Nat) (h : q_H) : q_H := q_new h (1, 0, 64)
theorem q_X5_init_sh1 {a : Nat} {h : q_H} {x : Nat} (hx : x < q_nx h) : q_sh (q_X5_init_1 a h) x = q_sh h x := (q_ur_n _ _ _ (show x ≠ (q_nx h) from by omega)).trans rfl
def q_X5_init_2 (a : Nat) (h : q_H) : q_H := q_hR (q_X5_init_1 a h) a 0 (q_nx h)
theorem q_X5_init_sh2 {a : Nat} {h : q_H} {x : Nat} (hx : x < q_nx h) : q_sh (q_X5_init_2 a h) x = q_sh h x := q_X5_init_sh1 (a := a) hx
def q_X5_init_3 (a : Nat) (h : q_H) : q_H := q_hI (q_X5_init_2 a h) a 1 0
theorem q_X5_init_sh3 {a : Nat} {h : q_H} {x : Nat} (hx : x < q_nx h) : q_sh (q_X5_init_3 a h) x = q_sh h x := q_X5_init_sh2 (a := a) hx
def q_X5_init_4 (a : Nat) (h : q_H) : q_H := q_hI (q_X5_init_3 a h) a 2 0
theorem q_X5_init_sh4 {a : Nat} {h : q_H} {x : Nat} (hx : x < q_nx h) : q_sh (q_X5_init_4 a h) x = q_sh h x := q_X5_init_sh3 (a := a) hx
abbrev q_F_X5_init (a : Nat) (h : q_H) : q_H := (q_X5_init_4 a h)
theorem fs_X5_init {a : Nat} {h : q_H} {x : Nat} (hx : x < q_nx h) : q_sh (q_F_X5_init a h) x = q_sh h x := q_X5_init_sh4 (a := a) hx
theorem fn_X5_init {a : Nat} {h : q_H} : q_nx (q_F_X5_init a h) = q_nx h + 1 := rfl
theorem ctn_X5_init {g : q_G} {d : Nat} (hd : 2 ≤ d) {h : q_H} {a : Nat} (ha : 400 ≤ a) (hlt : a < q_nx h) (hsh : q_sh h a = (0, 4, 0)) : q_Ct g m_X5_init d 1 64 [] [.ref a] h (fun o h' => o = .inl none ∧ h' = q_F_X5_init a h) := by
  have hN : 400 ≤ q_nx h := by omega
  refine q_Ct_of ok_X5_init (Nat.le_of_ble_eq_true rfl) ?_ _ rfl rfl
  refine q_go 1 (c' := (1, [some (.ref a)], [.ref a], h)) ok_X5_init rfl ?_
  refine q_o_objInit ok_X5_init rfl rfl (Nat.le_trans (by decide) hd) (by decide) ?_
  refine q_go 2 (c' := (4, [some (.ref a)], [.int 64, .ref a], h)) ok_X5_init rfl ?_
  refine q_o_newarrI (h := h) ok_X5_init rfl (show (64 : Int32) = nI 64 from rfl) (by decide) (Nat.le_of_ble_eq_true rfl) (Nat.le_of_ble_eq_true rfl) ?_
  change q_J g m_X5_init d 1 64 _ [] _ 1 64 (5, [some (.ref a)], [.ref (q_nx h), .ref a], (q_X5_init_1 a h))
  refine q_o_putR (h := (q_X5_init_1 a h)) ok_X5_init rfl (by omega) ((q_X5_init_sh1 (a := a) hlt).trans hsh) (show 0 < 2 by decide) rfl ?_
  change q_J g m_X5_init d 1 64 _ [] _ 1 64 (6, [some (.ref a)], [], (q_X5_init_2 a h))
  refine q_go 2 (c' := (8, [some (.ref a)], [.int 0, .ref a], (q_X5_init_2 a h))) ok_X5_init rfl ?_
  refine q_o_putI (h := (q_X5_init_2 a h)) ok_X5_init rfl (by omega) ((q_X5_init_sh2 (a := a) hlt).trans hsh) (show 0 < 2 by decide) rfl ?_
  change q_J g m_X5_init d 1 64 _ [] _ 1 64 (9, [some (.ref a)], [], (q_X5_init_3 a h))
  refine q_go 2 (c' := (11, [some (.ref a)], [.int 0, .ref a], (q_X5_init_3 a h))) ok_X5_init rfl ?_
  refine q_o_putI (h := (q_X5_init_3 a h)) ok_X5_init rfl (by omega) ((q_X5_init_sh3 (a := a) hlt).trans hsh) (show 0 < 2 by decide) rfl ?_
  change q_J g m_X5_init d 1 64 _ [] _ 1 64 (12, [some (.ref a)], [], (q_X5_init_4 a h))
  exact q_o_vret ok_X5_init rfl rfl (Nat.le_of_ble_eq_true rfl) (Nat.le_of_ble_eq_true rfl) ⟨rfl, rfl⟩
def q_X8_init_1 (a : Nat) (h : q_H) : q_H := q_new h (1, 0, 400)
theorem q_X8_init_sh1 {a : Nat} {h : q_H} {x : Nat} (hx : x < q_nx h) : q_sh (q_X8_init_1 a h) x = q_sh h x := (q_ur_n _ _ _ (show x ≠ (q_nx h) from by omega)).trans rfl
def q_X8_init_2 (a : Nat) (h : q_H) : q_H := q_hR (q_X8_init_1 a h) a 0 (q_nx h)
theorem q_X8_init_sh2 {a : Nat} {h : q_H} {x : Nat} (hx : x < q_nx h) : q_sh (q_X8_init_2 a h) x = q_sh h x := q_X8_init_sh1 (a := a) hx
def q_X8_init_3 (a : Nat) (h : q_H) : q_H := q_hI (q_X8_init_2 a h) a 1 0
theorem q_X8_init_sh3 {a : Nat} {h : q_H} {x : Nat} (hx : x < q_nx h) : q_sh (q_X8_init_3 a h) x = q_sh h x := q_X8_init_sh2 (a := a) hx
abbrev q_F_X8_init (a : Nat) (h : q_H) : q_H := (q_X8_init_3 a h)
theorem fs_X8_init {a : Nat} {h : q_H} {x : Nat} (hx : x < q_nx h) : q_sh (q_F_X8_init a h) x = q_sh h x := q_X8_init_sh3 (a := a) hx
theorem fn_X8_init {a : Nat} {h : q_H} : q_nx (q_F_X8_init a h) = q_nx h + 1 := rfl
theorem ctn_X8_init {g : q_G} {d : Nat} (hd : 2 ≤ d) {h : q_H} {a : Nat} (ha : 400 ≤ a) (hlt : a < q_nx h) (hsh : q_sh h a = (0, 7, 0)) : q_Ct g m_X8_init d 1 400 [] [.ref a] h (fun o h' => o = .inl none ∧ h' = q_F_X8_init a h) := by
  have hN : 400 ≤ q_nx h := by omega
  refine q_Ct_of ok_X8_init (Nat.le_of_ble_eq_true rfl) ?_ _ rfl rfl
  refine q_go 1 (c' := (1, [some (.ref a)], [.ref a], h)) ok_X8_init rfl ?_
  refine q_o_objInit ok_X8_init rfl rfl (Nat.le_trans (by decide) hd) (by decide) ?_
  refine q_go 2 (c' := (4, [some (.ref a)], [.int 400, .ref a], h)) ok_X8_init rfl ?_
  refine q_o_newarrI (h := h) ok_X8_init rfl (show (400 : Int32) = nI 400 from rfl) (by decide) (Nat.le_of_ble_eq_true rfl) (Nat.le_of_ble_eq_true rfl) ?_
  change q_J g m_X8_init d 1 400 _ [] _ 1 400 (5, [some (.ref a)], [.ref (q_nx h), .ref a], (q_X8_init_1 a h))
  refine q_o_putR (h := (q_X8_init_1 a h)) ok_X8_init rfl (by omega) ((q_X8_init_sh1 (a := a) hlt).trans hsh) (show 0 < 2 by decide) rfl ?_
  change q_J g m_X8_init d 1 400 _ [] _ 1 400 (6, [some (.ref a)], [], (q_X8_init_2 a h))
  refine q_go 2 (c' := (8, [some (.ref a)], [.int 0, .ref a], (q_X8_init_2 a h))) ok_X8_init rfl ?_
  refine q_o_putI (h := (q_X8_init_2 a h)) ok_X8_init rfl (by omega) ((q_X8_init_sh2 (a := a) hlt).trans hsh) (show 0 < 2 by decide) rfl ?_
  change q_J g m_X8_init d 1 400 _ [] _ 1 400 (9, [some (.ref a)], [], (q_X8_init_3 a h))
  exact q_o_vret ok_X8_init rfl rfl (Nat.le_of_ble_eq_true rfl) (Nat.le_of_ble_eq_true rfl) ⟨rfl, rfl⟩
def q_X3_init_1 (a : Nat) (h : q_H) : q_H := q_new h (0, 7, 0)
theorem q_X3_init_sh1 {a : Nat} {h : q_H} {x : Nat} (hx : x < q_nx h) : q_sh (q_X3_init_1 a h) x = q_sh h x := (q_ur_n _ _ _ (show x ≠ (q_nx h) from by omega)).trans rfl
def q_X3_init_2 (a : Nat) (h : q_H) : q_H := q_F_X8_init (q_nx h) (q_X3_init_1 a h)
theorem q_X3_init_sh2 {a : Nat} {h : q_H} {x : Nat} (hx : x < q_nx h) : q_sh (q_X3_init_2 a h) x = q_sh h x := (fs_X8_init (show x < (q_nx h + 1) from by omega)).trans (q_X3_init_sh1 (a := a) hx)
def q_X3_init_3 (a : Nat) (h : q_H) : q_H := q_hR (q_X3_init_2 a h) a 0 (q_nx h)
theorem q_X3_init_sh3 {a : Nat} {h : q_H} {x : Nat} (hx : x < q_nx h) : q_sh (q_X3_init_3 a h) x = q_sh h x := q_X3_init_sh2 (a := a) hx
abbrev q_F_X3_init (a : Nat) (h : q_H) : q_H := (q_X3_init_3 a h)
theorem fs_X3_init {a : Nat} {h : q_H} {x : Nat} (hx : x < q_nx h) : q_sh (q_F_X3_init a h) x = q_sh h x := q_X3_init_sh3 (a := a) hx
theorem fn_X3_init {a : Nat} {h : q_H} : q_nx (q_F_X3_init a h) = q_nx h + 2 := rfl
theorem ctn_X3_init {g : q_G} {d : Nat} (hd : 3 ≤ d) {h : q_H} {a : Nat} (ha : 400 ≤ a) (hlt : a < q_nx h) (hsh : q_sh h a = (0, 2, 0)) : q_Ct g m_X3_init d 2 402 [] [.ref a] h (fun o h' => o = .inl none ∧ h' = q_F_X3_init a h) := by
  have hN : 400 ≤ q_nx h := by omega
  refine q_Ct_of ok_X3_init (Nat.le_of_ble_eq_true rfl) ?_ _ rfl rfl
  refine q_go 1 (c' := (1, [some (.ref a)], [.ref a], h)) ok_X3_init rfl ?_
  refine q_o_objInit ok_X3_init rfl rfl (Nat.le_trans (by decide) hd) (by decide) ?_
  refine q_go 1 (c' := (3, [some (.ref a)], [.ref a], h)) ok_X3_init rfl ?_
  refine q_o_new (h := h) ok_X3_init rfl rfl (show vwCl[7]? = some _ from rfl) q_i1_7 q_i2_7 (Nat.le_of_ble_eq_true rfl) (Nat.le_of_ble_eq_true rfl) ?_
  change q_J g m_X3_init d 2 402 _ [] _ 1 2 (4, [some (.ref a)], [.ref (q_nx h), .ref a], (q_X3_init_1 a h))
  refine q_go 1 (c' := (5, [some (.ref a)], [.ref (q_nx h), .ref (q_nx h), .ref a], (q_X3_init_1 a h))) ok_X3_init rfl ?_
  refine q_callI (h := (q_X3_init_1 a h)) (M2 := m_X8_init) (b := (q_nx h)) (As := []) (rest := [.ref (q_nx h), .ref a]) ok_X3_init ok_X8_init rfl (by first | exact Or.inl rfl | exact Or.inr ⟨_, rfl⟩) ci_X8_init rfl (ctn_X8_init (d := 2) (Nat.le_refl _) (h := (q_X3_init_1 a h)) (a := (q_nx h)) (show 400 ≤ (q_nx h) by omega) (Nat.lt_succ_self _) (q_ur_s _ _ _)) (Nat.le_trans (by decide) hd) (Nat.le_of_ble_eq_true rfl) (Nat.le_of_ble_eq_true rfl) (Nat.le_of_ble_eq_true rfl) (fun x hx => absurd hx List.not_mem_nil) (fun _ _ _ => List.not_mem_nil) (fun _ _ => List.not_mem_nil) rfl (fun v h' hq => ?_) (fun E9 h' hq => by cases hq.1)
  obtain ⟨e1, e2⟩ := hq
  cases e1
  subst e2
  change q_J g m_X3_init d 2 402 _ [] _ 2 402 (6, [some (.ref a)], [.ref (q_nx h), .ref a], (q_X3_init_2 a h))
  refine q_o_putR (h := (q_X3_init_2 a h)) ok_X3_init rfl (by omega) ((q_X3_init_sh2 (a := a) hlt).trans hsh) (show 0 < 2 by decide) rfl ?_
  change q_J g m_X3_init d 2 402 _ [] _ 2 402 (7, [some (.ref a)], [], (q_X3_init_3 a h))
  exact q_o_vret ok_X3_init rfl rfl (Nat.le_of_ble_eq_true rfl) (Nat.le_of_ble_eq_true rfl) ⟨rfl, rfl⟩
def q_X10_init_1 (a : Nat) (h : q_H) : q_H := q_hE h a 0 13
theorem q_X10_init_sh1 {a : Nat} {h : q_H} {x : Nat} (hx : x < q_nx h) : q_sh (q_X10_init_1 a h) x = q_sh h x := rfl
def q_X10_init_2 (a : Nat) (h : q_H) : q_H := q_hI (q_X10_init_1 a h) a 1 0
theorem q_X10_init_sh2 {a : Nat} {h : q_H} {x : Nat} (hx : x < q_nx h) : q_sh (q_X10_init_2 a h) x = q_sh h x := q_X10_init_sh1 (a := a) hx
def q_X10_init_3 (a : Nat) (h : q_H) : q_H := q_hI (q_X10_init_2 a h) a 2 0
theorem q_X10_init_sh3 {a : Nat} {h : q_H} {x : Nat} (hx : x < q_nx h) : q_sh (q_X10_init_3 a h) x = q_sh h x := q_X10_init_sh2 (a := a) hx
def q_X10_init_4 (a : Nat) (h : q_H) : q_H := q_hI (q_X10_init_3 a h) a 3 0
theorem q_X10_init_sh4 {a : Nat} {h : q_H} {x : Nat} (hx : x < q_nx h) : q_sh (q_X10_init_4 a h) x = q_sh h x := q_X10_init_sh3 (a := a) hx
def q_X10_init_5 (a : Nat) (h : q_H) : q_H := q_hI (q_X10_init_4 a h) a 4 0
theorem q_X10_init_sh5 {a : Nat} {h : q_H} {x : Nat} (hx : x < q_nx h) : q_sh (q_X10_init_5 a h) x = q_sh h x := q_X10_init_sh4 (a := a) hx
def q_X10_init_6 (a : Nat) (h : q_H) : q_H := q_hI (q_X10_init_5 a h) a 5 0
theorem q_X10_init_sh6 {a : Nat} {h : q_H} {x : Nat} (hx : x < q_nx h) : q_sh (q_X10_init_6 a h) x = q_sh h x := q_X10_init_sh5 (a := a) hx
def q_X10_init_7 (a : Nat) (h : q_H) : q_H := q_hI (q_X10_init_6 a h) a 6 0
theorem q_X10_init_sh7 {a : Nat} {h : q_H} {x : Nat} (hx : x < q_nx h) : q_sh (q_X10_init_7 a h) x = q_sh h x := q_X10_init_sh6 (a := a) hx
def q_X10_init_8 (a : Nat) (h : q_H) : q_H := q_hI (q_X10_init_7 a h) a 7 0
theorem q_X10_init_sh8 {a : Nat} {h : q_H} {x : Nat} (hx : x < q_nx h) : q_sh (q_X10_init_8 a h) x = q_sh h x := q_X10_init_sh7 (a := a) hx
abbrev q_F_X10_init (a : Nat) (h : q_H) : q_H := (q_X10_init_8 a h)
theorem fs_X10_init {a : Nat} {h : q_H} {x : Nat} (hx : x < q_nx h) : q_sh (q_F_X10_init a h) x = q_sh h x := q_X10_init_sh8 (a := a) hx
theorem fn_X10_init {a : Nat} {h : q_H} : q_nx (q_F_X10_init a h) = q_nx h + 0 := rfl
theorem ctn_X10_init {g : q_G} {d : Nat} (hd : 2 ≤ d) {h : q_H} {a : Nat} (ha : 400 ≤ a) (hlt : a < q_nx h) (hsh : q_sh h a = (0, 8, 0)) : q_Ct g m_X10_init d 0 0 [] [.ref a] h (fun o h' => o = .inl none ∧ h' = q_F_X10_init a h) := by
  have hN : 400 ≤ q_nx h := by omega
  refine q_Ct_of ok_X10_init (Nat.le_of_ble_eq_true rfl) ?_ _ rfl rfl
  refine q_go 1 (c' := (1, [some (.ref a)], [.ref a], h)) ok_X10_init rfl ?_
  refine q_o_objInit ok_X10_init rfl rfl (Nat.le_trans (by decide) hd) (by decide) ?_
  refine q_go 1 (c' := (3, [some (.ref a)], [.ref a], h)) ok_X10_init rfl ?_
  refine q_o_gets ok_X10_init rfl (by decide) ?_
  refine q_o_putE (h := h) ok_X10_init rfl (by omega) hsh (show 0 < 2 by decide) rfl (by decide) ?_
  change q_J g m_X10_init d 0 0 _ [] _ 0 0 (5, [some (.ref a)], [], (q_X10_init_1 a h))
  refine q_go 2 (c' := (7, [some (.ref a)], [.int 0, .ref a], (q_X10_init_1 a h))) ok_X10_init rfl ?_
  refine q_o_putI (h := (q_X10_init_1 a h)) ok_X10_init rfl (by omega) ((q_X10_init_sh1 (a := a) hlt).trans hsh) (show 0 < 2 by decide) rfl ?_
  change q_J g m_X10_init d 0 0 _ [] _ 0 0 (8, [some (.ref a)], [], (q_X10_init_2 a h))
  refine q_go 2 (c' := (10, [some (.ref a)], [.int 0, .ref a], (q_X10_init_2 a h))) ok_X10_init rfl ?_
  refine q_o_putI (h := (q_X10_init_2 a h)) ok_X10_init rfl (by omega) ((q_X10_init_sh2 (a := a) hlt).trans hsh) (show 0 < 2 by decide) rfl ?_
  change q_J g m_X10_init d 0 0 _ [] _ 0 0 (11, [some (.ref a)], [], (q_X10_init_3 a h))
  refine q_go 2 (c' := (13, [some (.ref a)], [.int 0, .ref a], (q_X10_init_3 a h))) ok_X10_init rfl ?_
  refine q_o_putI (h := (q_X10_init_3 a h)) ok_X10_init rfl (by omega) ((q_X10_init_sh3 (a := a) hlt).trans hsh) (show 0 < 2 by decide) rfl ?_
  change q_J g m_X10_init d 0 0 _ [] _ 0 0 (14, [some (.ref a)], [], (q_X10_init_4 a h))
  refine q_go 2 (c' := (16, [some (.ref a)], [.int 0, .ref a], (q_X10_init_4 a h))) ok_X10_init rfl ?_
  refine q_o_putI (h := (q_X10_init_4 a h)) ok_X10_init rfl (by omega) ((q_X10_init_sh4 (a := a) hlt).trans hsh) (show 0 < 2 by decide) rfl ?_
  change q_J g m_X10_init d 0 0 _ [] _ 0 0 (17, [some (.ref a)], [], (q_X10_init_5 a h))
  refine q_go 2 (c' := (19, [some (.ref a)], [.int 0, .ref a], (q_X10_init_5 a h))) ok_X10_init rfl ?_
  refine q_o_putI (h := (q_X10_init_5 a h)) ok_X10_init rfl (by omega) ((q_X10_init_sh5 (a := a) hlt).trans hsh) (show 0 < 2 by decide) rfl ?_
  change q_J g m_X10_init d 0 0 _ [] _ 0 0 (20, [some (.ref a)], [], (q_X10_init_6 a h))
  refine q_go 2 (c' := (22, [some (.ref a)], [.int 0, .ref a], (q_X10_init_6 a h))) ok_X10_init rfl ?_
  refine q_o_putI (h := (q_X10_init_6 a h)) ok_X10_init rfl (by omega) ((q_X10_init_sh6 (a := a) hlt).trans hsh) (show 0 < 2 by decide) rfl ?_
  change q_J g m_X10_init d 0 0 _ [] _ 0 0 (23, [some (.ref a)], [], (q_X10_init_7 a h))
  refine q_go 2 (c' := (25, [some (.ref a)], [.int 0, .ref a], (q_X10_init_7 a h))) ok_X10_init rfl ?_
  refine q_o_putI (h := (q_X10_init_7 a h)) ok_X10_init rfl (by omega) ((q_X10_init_sh7 (a := a) hlt).trans hsh) (show 0 < 2 by decide) rfl ?_
  change q_J g m_X10_init d 0 0 _ [] _ 0 0 (26, [some (.ref a)], [], (q_X10_init_8 a h))
  exact q_o_vret ok_X10_init rfl rfl (Nat.le_of_ble_eq_true rfl) (Nat.le_of_ble_eq_true rfl) ⟨rfl, rfl⟩
def q_X11_init_1 (a : Nat) (b1 : Nat) (h : q_H) : q_H := q_new h (4, 5, 401)
theorem q_X11_init_sh1 {a : Nat} {b1 : Nat} {h : q_H} {x : Nat} (hx : x < q_nx h) : q_sh (q_X11_init_1 a b1 h) x = q_sh h x := (q_ur_n _ _ _ (show x ≠ (q_nx h) from by omega)).trans rfl
def q_X11_init_2 (a : Nat) (b1 : Nat) (h : q_H) : q_H := q_hR (q_X11_init_1 a b1 h) a 1 (q_nx h)
theorem q_X11_init_sh2 {a : Nat} {b1 : Nat} {h : q_H} {x : Nat} (hx : x < q_nx h) : q_sh (q_X11_init_2 a b1 h) x = q_sh h x := q_X11_init_sh1 (a := a) (b1 := b1) hx
def q_X11_init_3 (a : Nat) (b1 : Nat) (h : q_H) : q_H := q_new (q_X11_init_2 a b1 h) (1, 0, 401)
theorem q_X11_init_sh3 {a : Nat} {b1 : Nat} {h : q_H} {x : Nat} (hx : x < q_nx h) : q_sh (q_X11_init_3 a b1 h) x = q_sh h x := (q_ur_n _ _ _ (show x ≠ (q_nx h + 1) from by omega)).trans (q_X11_init_sh2 (a := a) (b1 := b1) hx)
def q_X11_init_4 (a : Nat) (b1 : Nat) (h : q_H) : q_H := q_hR (q_X11_init_3 a b1 h) a 2 (q_nx h + 1)
theorem q_X11_init_sh4 {a : Nat} {b1 : Nat} {h : q_H} {x : Nat} (hx : x < q_nx h) : q_sh (q_X11_init_4 a b1 h) x = q_sh h x := q_X11_init_sh3 (a := a) (b1 := b1) hx
def q_X11_init_5 (a : Nat) (b1 : Nat) (h : q_H) : q_H := q_new (q_X11_init_4 a b1 h) (1, 0, 401)
theorem q_X11_init_sh5 {a : Nat} {b1 : Nat} {h : q_H} {x : Nat} (hx : x < q_nx h) : q_sh (q_X11_init_5 a b1 h) x = q_sh h x := (q_ur_n _ _ _ (show x ≠ (q_nx h + 2) from by omega)).trans (q_X11_init_sh4 (a := a) (b1 := b1) hx)
def q_X11_init_6 (a : Nat) (b1 : Nat) (h : q_H) : q_H := q_hR (q_X11_init_5 a b1 h) a 3 (q_nx h + 2)
theorem q_X11_init_sh6 {a : Nat} {b1 : Nat} {h : q_H} {x : Nat} (hx : x < q_nx h) : q_sh (q_X11_init_6 a b1 h) x = q_sh h x := q_X11_init_sh5 (a := a) (b1 := b1) hx
def q_X11_init_7 (a : Nat) (b1 : Nat) (h : q_H) : q_H := q_new (q_X11_init_6 a b1 h) (1, 0, 401)
theorem q_X11_init_sh7 {a : Nat} {b1 : Nat} {h : q_H} {x : Nat} (hx : x < q_nx h) : q_sh (q_X11_init_7 a b1 h) x = q_sh h x := (q_ur_n _ _ _ (show x ≠ (q_nx h + 3) from by omega)).trans (q_X11_init_sh6 (a := a) (b1 := b1) hx)
def q_X11_init_8 (a : Nat) (b1 : Nat) (h : q_H) : q_H := q_hR (q_X11_init_7 a b1 h) a 4 (q_nx h + 3)
theorem q_X11_init_sh8 {a : Nat} {b1 : Nat} {h : q_H} {x : Nat} (hx : x < q_nx h) : q_sh (q_X11_init_8 a b1 h) x = q_sh h x := q_X11_init_sh7 (a := a) (b1 := b1) hx
def q_X11_init_9 (a : Nat) (b1 : Nat) (h : q_H) : q_H := q_hI (q_X11_init_8 a b1 h) a 5 0
theorem q_X11_init_sh9 {a : Nat} {b1 : Nat} {h : q_H} {x : Nat} (hx : x < q_nx h) : q_sh (q_X11_init_9 a b1 h) x = q_sh h x := q_X11_init_sh8 (a := a) (b1 := b1) hx
def q_X11_init_10 (a : Nat) (b1 : Nat) (h : q_H) : q_H := q_hI (q_X11_init_9 a b1 h) a 6 0
theorem q_X11_init_sh10 {a : Nat} {b1 : Nat} {h : q_H} {x : Nat} (hx : x < q_nx h) : q_sh (q_X11_init_10 a b1 h) x = q_sh h x := q_X11_init_sh9 (a := a) (b1 := b1) hx
def q_X11_init_11 (a : Nat) (b1 : Nat) (h : q_H) : q_H := q_hR (q_X11_init_10 a b1 h) a 0 b1
theorem q_X11_init_sh11 {a : Nat} {b1 : Nat} {h : q_H} {x : Nat} (hx : x < q_nx h) : q_sh (q_X11_init_11 a b1 h) x = q_sh h x := q_X11_init_sh10 (a := a) (b1 := b1) hx
abbrev q_F_X11_init (a b1 : Nat) (h : q_H) : q_H := (q_X11_init_11 a b1 h)
theorem fs_X11_init {a b1 : Nat} {h : q_H} {x : Nat} (hx : x < q_nx h) : q_sh (q_F_X11_init a b1 h) x = q_sh h x := q_X11_init_sh11 (a := a) (b1 := b1) hx
theorem fn_X11_init {a b1 : Nat} {h : q_H} : q_nx (q_F_X11_init a b1 h) = q_nx h + 4 := rfl
theorem ctn_X11_init {g : q_G} {d : Nat} (hd : 2 ≤ d) {h : q_H} {a b1 : Nat} (ha : 400 ≤ a) (hlt : a < q_nx h) (hsh : q_sh h a = (0, 9, 0)) : q_Ct g m_X11_init d 4 1604 [] [.ref a, .ref b1] h (fun o h' => o = .inl none ∧ h' = q_F_X11_init a b1 h) := by
  have hN : 400 ≤ q_nx h := by omega
  refine q_Ct_of ok_X11_init (Nat.le_of_ble_eq_true rfl) ?_ _ rfl rfl
  refine q_go 1 (c' := (1, [some (.ref a), some (.ref b1)], [.ref a], h)) ok_X11_init rfl ?_
  refine q_o_objInit ok_X11_init rfl rfl (Nat.le_trans (by decide) hd) (by decide) ?_
  refine q_go 2 (c' := (4, [some (.ref a), some (.ref b1)], [.int 401, .ref a], h)) ok_X11_init rfl ?_
  refine q_o_newqSign (h := h) ok_X11_init rfl rfl (show (401 : Int32) = nI 401 from rfl) (by decide) (Nat.le_of_ble_eq_true rfl) (Nat.le_of_ble_eq_true rfl) ?_
  change q_J g m_X11_init d 4 1604 _ [] _ 1 401 (5, [some (.ref a), some (.ref b1)], [.ref (q_nx h), .ref a], (q_X11_init_1 a b1 h))
  refine q_o_putR (h := (q_X11_init_1 a b1 h)) ok_X11_init rfl (by omega) ((q_X11_init_sh1 (a := a) (b1 := b1) hlt).trans hsh) (show 0 < 2 by decide) rfl ?_
  change q_J g m_X11_init d 4 1604 _ [] _ 1 401 (6, [some (.ref a), some (.ref b1)], [], (q_X11_init_2 a b1 h))
  refine q_go 2 (c' := (8, [some (.ref a), some (.ref b1)], [.int 401, .ref a], (q_X11_init_2 a b1 h))) ok_X11_init rfl ?_
  refine q_o_newarrI (h := (q_X11_init_2 a b1 h)) ok_X11_init rfl (show (401 : Int32) = nI 401 from rfl) (by decide) (Nat.le_of_ble_eq_true rfl) (Nat.le_of_ble_eq_true rfl) ?_
  change q_J g m_X11_init d 4 1604 _ [] _ 2 802 (9, [some (.ref a), some (.ref b1)], [.ref (q_nx h + 1), .ref a], (q_X11_init_3 a b1 h))
  refine q_o_putR (h := (q_X11_init_3 a b1 h)) ok_X11_init rfl (by omega) ((q_X11_init_sh3 (a := a) (b1 := b1) hlt).trans hsh) (show 0 < 2 by decide) rfl ?_
  change q_J g m_X11_init d 4 1604 _ [] _ 2 802 (10, [some (.ref a), some (.ref b1)], [], (q_X11_init_4 a b1 h))
  refine q_go 2 (c' := (12, [some (.ref a), some (.ref b1)], [.int 401, .ref a], (q_X11_init_4 a b1 h))) ok_X11_init rfl ?_
  refine q_o_newarrI (h := (q_X11_init_4 a b1 h)) ok_X11_init rfl (show (401 : Int32) = nI 401 from rfl) (by decide) (Nat.le_of_ble_eq_true rfl) (Nat.le_of_ble_eq_true rfl) ?_
  change q_J g m_X11_init d 4 1604 _ [] _ 3 1203 (13, [some (.ref a), some (.ref b1)], [.ref (q_nx h + 2), .ref a], (q_X11_init_5 a b1 h))
  refine q_o_putR (h := (q_X11_init_5 a b1 h)) ok_X11_init rfl (by omega) ((q_X11_init_sh5 (a := a) (b1 := b1) hlt).trans hsh) (show 0 < 2 by decide) rfl ?_
  change q_J g m_X11_init d 4 1604 _ [] _ 3 1203 (14, [some (.ref a), some (.ref b1)], [], (q_X11_init_6 a b1 h))
  refine q_go 2 (c' := (16, [some (.ref a), some (.ref b1)], [.int 401, .ref a], (q_X11_init_6 a b1 h))) ok_X11_init rfl ?_
  refine q_o_newarrI (h := (q_X11_init_6 a b1 h)) ok_X11_init rfl (show (401 : Int32) = nI 401 from rfl) (by decide) (Nat.le_of_ble_eq_true rfl) (Nat.le_of_ble_eq_true rfl) ?_
  change q_J g m_X11_init d 4 1604 _ [] _ 4 1604 (17, [some (.ref a), some (.ref b1)], [.ref (q_nx h + 3), .ref a], (q_X11_init_7 a b1 h))
  refine q_o_putR (h := (q_X11_init_7 a b1 h)) ok_X11_init rfl (by omega) ((q_X11_init_sh7 (a := a) (b1 := b1) hlt).trans hsh) (show 0 < 2 by decide) rfl ?_
  change q_J g m_X11_init d 4 1604 _ [] _ 4 1604 (18, [some (.ref a), some (.ref b1)], [], (q_X11_init_8 a b1 h))
  refine q_go 2 (c' := (20, [some (.ref a), some (.ref b1)], [.int 0, .ref a], (q_X11_init_8 a b1 h))) ok_X11_init rfl ?_
  refine q_o_putI (h := (q_X11_init_8 a b1 h)) ok_X11_init rfl (by omega) ((q_X11_init_sh8 (a := a) (b1 := b1) hlt).trans hsh) (show 0 < 2 by decide) rfl ?_
  change q_J g m_X11_init d 4 1604 _ [] _ 4 1604 (21, [some (.ref a), some (.ref b1)], [], (q_X11_init_9 a b1 h))
  refine q_go 2 (c' := (23, [some (.ref a), some (.ref b1)], [.int 0, .ref a], (q_X11_init_9 a b1 h))) ok_X11_init rfl ?_
  refine q_o_putI (h := (q_X11_init_9 a b1 h)) ok_X11_init rfl (by omega) ((q_X11_init_sh9 (a := a) (b1 := b1) hlt).trans hsh) (show 0 < 2 by decide) rfl ?_
  change q_J g m_X11_init d 4 1604 _ [] _ 4 1604 (24, [some (.ref a), some (.ref b1)], [], (q_X11_init_10 a b1 h))
  refine q_go 2 (c' := (26, [some (.ref a), some (.ref b1)], [.ref b1, .ref a], (q_X11_init_10 a b1 h))) ok_X11_init rfl ?_
  refine q_o_putR (h := (q_X11_init_10 a b1 h)) ok_X11_init rfl (by omega) ((q_X11_init_sh10 (a := a) (b1 := b1) hlt).trans hsh) (show 0 < 2 by decide) rfl ?_
  change q_J g m_X11_init d 4 1604 _ [] _ 4 1604 (27, [some (.ref a), some (.ref b1)], [], (q_X11_init_11 a b1 h))
  exact q_o_vret ok_X11_init rfl rfl (Nat.le_of_ble_eq_true rfl) (Nat.le_of_ble_eq_true rfl) ⟨rfl, rfl⟩
def q_X7_init_1 (a : Nat) (b1 : Nat) (b2 : Nat) (h : q_H) : q_H := q_new h (1, 0, 6)
theorem q_X7_init_sh1 {a : Nat} {b1 : Nat} {b2 : Nat} {h : q_H} {x : Nat} (hx : x < q_nx h) : q_sh (q_X7_init_1 a b1 b2 h) x = q_sh h x := (q_ur_n _ _ _ (show x ≠ (q_nx h) from by omega)).trans rfl
def q_X7_init_2 (a : Nat) (b1 : Nat) (b2 : Nat) (h : q_H) : q_H := q_hR (q_X7_init_1 a b1 b2 h) a 1 (q_nx h)
theorem q_X7_init_sh2 {a : Nat} {b1 : Nat} {b2 : Nat} {h : q_H} {x : Nat} (hx : x < q_nx h) : q_sh (q_X7_init_2 a b1 b2 h) x = q_sh h x := q_X7_init_sh1 (a := a) (b1 := b1) (b2 := b2) hx
def q_X7_init_3 (a : Nat) (b1 : Nat) (b2 : Nat) (h : q_H) : q_H := q_hI (q_X7_init_2 a b1 b2 h) a 3 0
theorem q_X7_init_sh3 {a : Nat} {b1 : Nat} {b2 : Nat} {h : q_H} {x : Nat} (hx : x < q_nx h) : q_sh (q_X7_init_3 a b1 b2 h) x = q_sh h x := q_X7_init_sh2 (a := a) (b1 := b1) (b2 := b2) hx
def q_X7_init_4 (a : Nat) (b1 : Nat) (b2 : Nat) (h : q_H) : q_H := q_hI (q_X7_init_3 a b1 b2 h) a 4 0
theorem q_X7_init_sh4 {a : Nat} {b1 : Nat} {b2 : Nat} {h : q_H} {x : Nat} (hx : x < q_nx h) : q_sh (q_X7_init_4 a b1 b2 h) x = q_sh h x := q_X7_init_sh3 (a := a) (b1 := b1) (b2 := b2) hx
def q_X7_init_5 (a : Nat) (b1 : Nat) (b2 : Nat) (h : q_H) : q_H := q_hI (q_X7_init_4 a b1 b2 h) a 5 0
theorem q_X7_init_sh5 {a : Nat} {b1 : Nat} {b2 : Nat} {h : q_H} {x : Nat} (hx : x < q_nx h) : q_sh (q_X7_init_5 a b1 b2 h) x = q_sh h x := q_X7_init_sh4 (a := a) (b1 := b1) (b2 := b2) hx
def q_X7_init_6 (a : Nat) (b1 : Nat) (b2 : Nat) (h : q_H) : q_H := q_new (q_X7_init_5 a b1 b2 h) (0, 9, 0)
theorem q_X7_init_sh6 {a : Nat} {b1 : Nat} {b2 : Nat} {h : q_H} {x : Nat} (hx : x < q_nx h) : q_sh (q_X7_init_6 a b1 b2 h) x = q_sh h x := (q_ur_n _ _ _ (show x ≠ (q_nx h + 1) from by omega)).trans (q_X7_init_sh5 (a := a) (b1 := b1) (b2 := b2) hx)
def q_X7_init_7 (a : Nat) (b1 : Nat) (b2 : Nat) (h : q_H) : q_H := q_F_X11_init (q_nx h + 1) b1 (q_X7_init_6 a b1 b2 h)
theorem q_X7_init_sh7 {a : Nat} {b1 : Nat} {b2 : Nat} {h : q_H} {x : Nat} (hx : x < q_nx h) : q_sh (q_X7_init_7 a b1 b2 h) x = q_sh h x := (fs_X11_init (show x < (q_nx h + 2) from by omega)).trans (q_X7_init_sh6 (a := a) (b1 := b1) (b2 := b2) hx)
def q_X7_init_8 (a : Nat) (b1 : Nat) (b2 : Nat) (h : q_H) : q_H := q_hR (q_X7_init_7 a b1 b2 h) a 0 (q_nx h + 1)
theorem q_X7_init_sh8 {a : Nat} {b1 : Nat} {b2 : Nat} {h : q_H} {x : Nat} (hx : x < q_nx h) : q_sh (q_X7_init_8 a b1 b2 h) x = q_sh h x := q_X7_init_sh7 (a := a) (b1 := b1) (b2 := b2) hx
def q_X7_init_9 (a : Nat) (b1 : Nat) (b2 : Nat) (h : q_H) : q_H := q_hR (q_X7_init_8 a b1 b2 h) a 2 b2
theorem q_X7_init_sh9 {a : Nat} {b1 : Nat} {b2 : Nat} {h : q_H} {x : Nat} (hx : x < q_nx h) : q_sh (q_X7_init_9 a b1 b2 h) x = q_sh h x := q_X7_init_sh8 (a := a) (b1 := b1) (b2 := b2) hx
abbrev q_F_X7_init (a b1 b2 : Nat) (h : q_H) : q_H := (q_X7_init_9 a b1 b2 h)
theorem fs_X7_init {a b1 b2 : Nat} {h : q_H} {x : Nat} (hx : x < q_nx h) : q_sh (q_F_X7_init a b1 b2 h) x = q_sh h x := q_X7_init_sh9 (a := a) (b1 := b1) (b2 := b2) hx
theorem fn_X7_init {a b1 b2 : Nat} {h : q_H} : q_nx (q_F_X7_init a b1 b2 h) = q_nx h + 6 := rfl
theorem ctn_X7_init {g : q_G} {d : Nat} (hd : 3 ≤ d) {h : q_H} {a b1 b2 : Nat} (ha : 400 ≤ a) (hlt : a < q_nx h) (hsh : q_sh h a = (0, 6, 0)) : q_Ct g m_X7_init d 6 1617 [] [.ref a, .ref b1, .ref b2] h (fun o h' => o = .inl none ∧ h' = q_F_X7_init a b1 b2 h) := by
  have hN : 400 ≤ q_nx h := by omega
  refine q_Ct_of ok_X7_init (Nat.le_of_ble_eq_true rfl) ?_ _ rfl rfl
  refine q_go 1 (c' := (1, [some (.ref a), some (.ref b1), some (.ref b2)], [.ref a], h)) ok_X7_init rfl ?_
  refine q_o_objInit ok_X7_init rfl rfl (Nat.le_trans (by decide) hd) (by decide) ?_
  refine q_go 2 (c' := (4, [some (.ref a), some (.ref b1), some (.ref b2)], [.int 6, .ref a], h)) ok_X7_init rfl ?_
  refine q_o_newarrI (h := h) ok_X7_init rfl (show (6 : Int32) = nI 6 from rfl) (by decide) (Nat.le_of_ble_eq_true rfl) (Nat.le_of_ble_eq_true rfl) ?_
  change q_J g m_X7_init d 6 1617 _ [] _ 1 6 (5, [some (.ref a), some (.ref b1), some (.ref b2)], [.ref (q_nx h), .ref a], (q_X7_init_1 a b1 b2 h))
  refine q_o_putR (h := (q_X7_init_1 a b1 b2 h)) ok_X7_init rfl (by omega) ((q_X7_init_sh1 (a := a) (b1 := b1) (b2 := b2) hlt).trans hsh) (show 0 < 2 by decide) rfl ?_
  change q_J g m_X7_init d 6 1617 _ [] _ 1 6 (6, [some (.ref a), some (.ref b1), some (.ref b2)], [], (q_X7_init_2 a b1 b2 h))
  refine q_go 2 (c' := (8, [some (.ref a), some (.ref b1), some (.ref b2)], [.int 0, .ref a], (q_X7_init_2 a b1 b2 h))) ok_X7_init rfl ?_
  refine q_o_putI (h := (q_X7_init_2 a b1 b2 h)) ok_X7_init rfl (by omega) ((q_X7_init_sh2 (a := a) (b1 := b1) (b2 := b2) hlt).trans hsh) (show 0 < 2 by decide) rfl ?_
  change q_J g m_X7_init d 6 1617 _ [] _ 1 6 (9, [some (.ref a), some (.ref b1), some (.ref b2)], [], (q_X7_init_3 a b1 b2 h))
  refine q_go 2 (c' := (11, [some (.ref a), some (.ref b1), some (.ref b2)], [.int 0, .ref a], (q_X7_init_3 a b1 b2 h))) ok_X7_init rfl ?_
  refine q_o_putI (h := (q_X7_init_3 a b1 b2 h)) ok_X7_init rfl (by omega) ((q_X7_init_sh3 (a := a) (b1 := b1) (b2 := b2) hlt).trans hsh) (show 0 < 2 by decide) rfl ?_
  change q_J g m_X7_init d 6 1617 _ [] _ 1 6 (12, [some (.ref a), some (.ref b1), some (.ref b2)], [], (q_X7_init_4 a b1 b2 h))
  refine q_go 2 (c' := (14, [some (.ref a), some (.ref b1), some (.ref b2)], [.int 0, .ref a], (q_X7_init_4 a b1 b2 h))) ok_X7_init rfl ?_
  refine q_o_putI (h := (q_X7_init_4 a b1 b2 h)) ok_X7_init rfl (by omega) ((q_X7_init_sh4 (a := a) (b1 := b1) (b2 := b2) hlt).trans hsh) (show 0 < 2 by decide) rfl ?_
  change q_J g m_X7_init d 6 1617 _ [] _ 1 6 (15, [some (.ref a), some (.ref b1), some (.ref b2)], [], (q_X7_init_5 a b1 b2 h))
  refine q_go 1 (c' := (16, [some (.ref a), some (.ref b1), some (.ref b2)], [.ref a], (q_X7_init_5 a b1 b2 h))) ok_X7_init rfl ?_
  refine q_o_new (h := (q_X7_init_5 a b1 b2 h)) ok_X7_init rfl rfl (show vwCl[9]? = some _ from rfl) q_i1_9 q_i2_9 (Nat.le_of_ble_eq_true rfl) (Nat.le_of_ble_eq_true rfl) ?_
  change q_J g m_X7_init d 6 1617 _ [] _ 2 13 (17, [some (.ref a), some (.ref b1), some (.ref b2)], [.ref (q_nx h + 1), .ref a], (q_X7_init_6 a b1 b2 h))
  refine q_go 2 (c' := (19, [some (.ref a), some (.ref b1), some (.ref b2)], [.ref b1, .ref (q_nx h + 1), .ref (q_nx h + 1), .ref a], (q_X7_init_6 a b1 b2 h))) ok_X7_init rfl ?_
  refine q_callI (h := (q_X7_init_6 a b1 b2 h)) (M2 := m_X11_init) (b := (q_nx h + 1)) (As := [.ref b1]) (rest := [.ref (q_nx h + 1), .ref a]) ok_X7_init ok_X11_init rfl (by first | exact Or.inl rfl | exact Or.inr ⟨_, rfl⟩) ci_X11_init rfl (ctn_X11_init (d := 2) (Nat.le_refl _) (h := (q_X7_init_6 a b1 b2 h)) (a := (q_nx h + 1)) (b1 := b1) (show 400 ≤ (q_nx h + 1) by omega) (Nat.lt_succ_self _) (q_ur_s _ _ _)) (Nat.le_trans (by decide) hd) (Nat.le_of_ble_eq_true rfl) (Nat.le_of_ble_eq_true rfl) (Nat.le_of_ble_eq_true rfl) (fun x hx => absurd hx List.not_mem_nil) (fun _ _ _ => List.not_mem_nil) (fun _ _ => List.not_mem_nil) rfl (fun v h' hq => ?_) (fun E9 h' hq => by cases hq.1)
  obtain ⟨e1, e2⟩ := hq
  cases e1
  subst e2
  change q_J g m_X7_init d 6 1617 _ [] _ 6 1617 (20, [some (.ref a), some (.ref b1), some (.ref b2)], [.ref (q_nx h + 1), .ref a], (q_X7_init_7 a b1 b2 h))
  refine q_o_putR (h := (q_X7_init_7 a b1 b2 h)) ok_X7_init rfl (by omega) ((q_X7_init_sh7 (a := a) (b1 := b1) (b2 := b2) hlt).trans hsh) (show 0 < 2 by decide) rfl ?_
  change q_J g m_X7_init d 6 1617 _ [] _ 6 1617 (21, [some (.ref a), some (.ref b1), some (.ref b2)], [], (q_X7_init_8 a b1 b2 h))
  refine q_go 2 (c' := (23, [some (.ref a), some (.ref b1), some (.ref b2)], [.ref b2, .ref a], (q_X7_init_8 a b1 b2 h))) ok_X7_init rfl ?_
  refine q_o_putR (h := (q_X7_init_8 a b1 b2 h)) ok_X7_init rfl (by omega) ((q_X7_init_sh8 (a := a) (b1 := b1) (b2 := b2) hlt).trans hsh) (show 0 < 2 by decide) rfl ?_
  change q_J g m_X7_init d 6 1617 _ [] _ 6 1617 (24, [some (.ref a), some (.ref b1), some (.ref b2)], [], (q_X7_init_9 a b1 b2 h))
  exact q_o_vret ok_X7_init rfl rfl (Nat.le_of_ble_eq_true rfl) (Nat.le_of_ble_eq_true rfl) ⟨rfl, rfl⟩
