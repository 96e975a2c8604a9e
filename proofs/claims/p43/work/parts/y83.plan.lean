/-! the constructor of the class's plan -/
def q_X6_init_1 (a : Nat) (h : q_H) : q_H := q_hI h a 0 16
theorem q_X6_init_sh1 {a : Nat} {h : q_H} {x : Nat} (hx : x < q_nx h) : q_sh (q_X6_init_1 a h) x = q_sh h x := rfl
def q_X6_init_2 (a : Nat) (h : q_H) : q_H := q_hI (q_X6_init_1 a h) a 1 16
theorem q_X6_init_sh2 {a : Nat} {h : q_H} {x : Nat} (hx : x < q_nx h) : q_sh (q_X6_init_2 a h) x = q_sh h x := q_X6_init_sh1 (a := a) hx
def q_X6_init_3 (a : Nat) (h : q_H) : q_H := q_hI (q_X6_init_2 a h) a 2 2
theorem q_X6_init_sh3 {a : Nat} {h : q_H} {x : Nat} (hx : x < q_nx h) : q_sh (q_X6_init_3 a h) x = q_sh h x := q_X6_init_sh2 (a := a) hx
def q_X6_init_4 (a : Nat) (h : q_H) : q_H := q_hI (q_X6_init_3 a h) a 3 0
theorem q_X6_init_sh4 {a : Nat} {h : q_H} {x : Nat} (hx : x < q_nx h) : q_sh (q_X6_init_4 a h) x = q_sh h x := q_X6_init_sh3 (a := a) hx
def q_X6_init_5 (a : Nat) (h : q_H) : q_H := q_hI (q_X6_init_4 a h) a 4 0
theorem q_X6_init_sh5 {a : Nat} {h : q_H} {x : Nat} (hx : x < q_nx h) : q_sh (q_X6_init_5 a h) x = q_sh h x := q_X6_init_sh4 (a := a) hx
def q_X6_init_6 (a : Nat) (h : q_H) : q_H := q_hI (q_X6_init_5 a h) a 5 0
theorem q_X6_init_sh6 {a : Nat} {h : q_H} {x : Nat} (hx : x < q_nx h) : q_sh (q_X6_init_6 a h) x = q_sh h x := q_X6_init_sh5 (a := a) hx
def q_X6_init_7 (a : Nat) (h : q_H) : q_H := q_new (q_X6_init_6 a h) (3, 4, 20)
theorem q_X6_init_sh7 {a : Nat} {h : q_H} {x : Nat} (hx : x < q_nx h) : q_sh (q_X6_init_7 a h) x = q_sh h x := (q_ur_n _ _ _ (show x ≠ (q_nx h) from by omega)).trans (q_X6_init_sh6 (a := a) hx)
def q_X6_init_8 (a : Nat) (h : q_H) : q_H := q_hR (q_X6_init_7 a h) a 6 (q_nx h)
theorem q_X6_init_sh8 {a : Nat} {h : q_H} {x : Nat} (hx : x < q_nx h) : q_sh (q_X6_init_8 a h) x = q_sh h x := q_X6_init_sh7 (a := a) hx
def q_X6_init_9 (a : Nat) (h : q_H) : q_H := q_new (q_X6_init_8 a h) (4, 5, 400)
theorem q_X6_init_sh9 {a : Nat} {h : q_H} {x : Nat} (hx : x < q_nx h) : q_sh (q_X6_init_9 a h) x = q_sh h x := (q_ur_n _ _ _ (show x ≠ (q_nx h + 1) from by omega)).trans (q_X6_init_sh8 (a := a) hx)
def q_X6_init_10 (a : Nat) (h : q_H) : q_H := q_hR (q_X6_init_9 a h) a 7 (q_nx h + 1)
theorem q_X6_init_sh10 {a : Nat} {h : q_H} {x : Nat} (hx : x < q_nx h) : q_sh (q_X6_init_10 a h) x = q_sh h x := q_X6_init_sh9 (a := a) hx
def q_X6_init_11 (a : Nat) (h : q_H) : q_H := q_new (q_X6_init_10 a h) (1, 0, 400)
theorem q_X6_init_sh11 {a : Nat} {h : q_H} {x : Nat} (hx : x < q_nx h) : q_sh (q_X6_init_11 a h) x = q_sh h x := (q_ur_n _ _ _ (show x ≠ (q_nx h + 2) from by omega)).trans (q_X6_init_sh10 (a := a) hx)
def q_X6_init_12 (a : Nat) (h : q_H) : q_H := q_hR (q_X6_init_11 a h) a 8 (q_nx h + 2)
theorem q_X6_init_sh12 {a : Nat} {h : q_H} {x : Nat} (hx : x < q_nx h) : q_sh (q_X6_init_12 a h) x = q_sh h x := q_X6_init_sh11 (a := a) hx
/-- i steps in the row T -/
def q_XSt (T : Nat) : Nat → q_H → q_H
  | 0, h => h
  | i + 1, h => q_hR (q_F_X10_init (q_nx (q_XSt T i h)) (q_new (q_XSt T i h) (0, 8, 0))) T i (q_nx (q_XSt T i h))
theorem q_XSt_nx {T : Nat} {h : q_H} : ∀ {i : Nat}, q_nx (q_XSt T i h) = q_nx h + i
  | 0 => rfl
  | i + 1 => by
    show q_nx (q_XSt T i h) + 1 = _
    rw [q_XSt_nx (i := i)]; rfl
theorem q_XSt_sh {T : Nat} {h : q_H} {x : Nat} (hx : x < q_nx h) : ∀ {i : Nat}, q_sh (q_XSt T i h) x = q_sh h x
  | 0 => rfl
  | i + 1 => by
    have e := q_XSt_nx (T := T) (h := h) (i := i)
    refine (fs_X10_init (a := q_nx (q_XSt T i h)) (h := q_new (q_XSt T i h) (0, 8, 0)) (x := x) (show x < q_nx (q_XSt T i h) + 1 by omega)).trans ((q_ur_n _ _ _ (show x ≠ q_nx (q_XSt T i h) by omega)).trans (q_XSt_sh hx))
theorem q_XSt_R {T : Nat} {h : q_H} {x : Nat} (hx : x < q_nx h) (hT : x ≠ T) : ∀ {i : Nat}, q_R (q_XSt T i h) x = q_R h x
  | 0 => rfl
  | i + 1 => by
    have e := q_XSt_nx (T := T) (h := h) (i := i)
    show q_u2 (q_ur (q_R (q_XSt T i h)) (q_nx (q_XSt T i h)) (fun _ => none)) T i _ x = _
    rw [q_u2_row _ _ _ _ _ hT, q_ur_n _ _ _ (show x ≠ q_nx (q_XSt T i h) by omega)]
    exact q_XSt_R hx hT
abbrev q_F_X6_init (a : Nat) (h : q_H) : q_H := q_XSt (q_nx h) 20 (q_X6_init_12 a h)
theorem fs_X6_init {a : Nat} {h : q_H} {x : Nat} (hx : x < q_nx h) : q_sh (q_F_X6_init a h) x = q_sh h x := (q_XSt_sh (T := q_nx h) (h := (q_X6_init_12 a h)) (x := x) (show x < q_nx h + 3 by omega)).trans (q_X6_init_sh12 hx)
theorem fn_X6_init {a : Nat} {h : q_H} : q_nx (q_F_X6_init a h) = q_nx h + 23 := q_XSt_nx
theorem ctn_X6_init {g : q_G} {d : Nat} (hd : 3 ≤ d) {h : q_H} {a : Nat} (ha : 400 ≤ a) (hlt : a < q_nx h) (hsh : q_sh h a = (0, 5, 0)) : q_Ct g m_X6_init d 23 980 [] [.ref a] h (fun o h' => o = .inl none ∧ h' = q_F_X6_init a h) := by
  have hN : 400 ≤ q_nx h := by omega
  refine q_Ct_of ok_X6_init (Nat.le_of_ble_eq_true rfl) ?_ _ rfl rfl
  refine q_go 1 (c' := (1, [some (.ref a), none], [.ref a], h)) ok_X6_init rfl ?_
  refine q_o_objInit ok_X6_init rfl rfl (Nat.le_trans (by decide) hd) (by decide) ?_
  refine q_go 2 (c' := (4, [some (.ref a), none], [.int 16, .ref a], h)) ok_X6_init rfl ?_
  refine q_o_putI (h := h) ok_X6_init rfl (by omega) hsh (show 0 < 2 by decide) rfl ?_
  change q_J g m_X6_init d 23 980 _ [] _ 0 0 (5, [some (.ref a), none], [], (q_X6_init_1 a h))
  refine q_go 2 (c' := (7, [some (.ref a), none], [.int 16, .ref a], (q_X6_init_1 a h))) ok_X6_init rfl ?_
  refine q_o_putI (h := (q_X6_init_1 a h)) ok_X6_init rfl (by omega) ((q_X6_init_sh1 (a := a) hlt).trans hsh) (show 0 < 2 by decide) rfl ?_
  change q_J g m_X6_init d 23 980 _ [] _ 0 0 (8, [some (.ref a), none], [], (q_X6_init_2 a h))
  refine q_go 2 (c' := (10, [some (.ref a), none], [.int 2, .ref a], (q_X6_init_2 a h))) ok_X6_init rfl ?_
  refine q_o_putI (h := (q_X6_init_2 a h)) ok_X6_init rfl (by omega) ((q_X6_init_sh2 (a := a) hlt).trans hsh) (show 0 < 2 by decide) rfl ?_
  change q_J g m_X6_init d 23 980 _ [] _ 0 0 (11, [some (.ref a), none], [], (q_X6_init_3 a h))
  refine q_go 2 (c' := (13, [some (.ref a), none], [.int 0, .ref a], (q_X6_init_3 a h))) ok_X6_init rfl ?_
  refine q_o_putI (h := (q_X6_init_3 a h)) ok_X6_init rfl (by omega) ((q_X6_init_sh3 (a := a) hlt).trans hsh) (show 0 < 2 by decide) rfl ?_
  change q_J g m_X6_init d 23 980 _ [] _ 0 0 (14, [some (.ref a), none], [], (q_X6_init_4 a h))
  refine q_go 2 (c' := (16, [some (.ref a), none], [.int 0, .ref a], (q_X6_init_4 a h))) ok_X6_init rfl ?_
  refine q_o_putI (h := (q_X6_init_4 a h)) ok_X6_init rfl (by omega) ((q_X6_init_sh4 (a := a) hlt).trans hsh) (show 0 < 2 by decide) rfl ?_
  change q_J g m_X6_init d 23 980 _ [] _ 0 0 (17, [some (.ref a), none], [], (q_X6_init_5 a h))
  refine q_go 2 (c' := (19, [some (.ref a), none], [.int 0, .ref a], (q_X6_init_5 a h))) ok_X6_init rfl ?_
  refine q_o_putI (h := (q_X6_init_5 a h)) ok_X6_init rfl (by omega) ((q_X6_init_sh5 (a := a) hlt).trans hsh) (show 0 < 2 by decide) rfl ?_
  change q_J g m_X6_init d 23 980 _ [] _ 0 0 (20, [some (.ref a), none], [], (q_X6_init_6 a h))
  refine q_go 2 (c' := (22, [some (.ref a), none], [.int 20, .ref a], (q_X6_init_6 a h))) ok_X6_init rfl ?_
  refine q_o_newqStep (h := (q_X6_init_6 a h)) ok_X6_init rfl rfl (show (20 : Int32) = nI 20 from rfl) (by decide) (Nat.le_of_ble_eq_true rfl) (Nat.le_of_ble_eq_true rfl) ?_
  change q_J g m_X6_init d 23 980 _ [] _ 1 20 (23, [some (.ref a), none], [.ref (q_nx h), .ref a], (q_X6_init_7 a h))
  refine q_o_putR (h := (q_X6_init_7 a h)) ok_X6_init rfl (by omega) ((q_X6_init_sh7 (a := a) hlt).trans hsh) (show 0 < 2 by decide) rfl ?_
  change q_J g m_X6_init d 23 980 _ [] _ 1 20 (24, [some (.ref a), none], [], (q_X6_init_8 a h))
  refine q_go 2 (c' := (26, [some (.ref a), none], [.int 400, .ref a], (q_X6_init_8 a h))) ok_X6_init rfl ?_
  refine q_o_newqSign (h := (q_X6_init_8 a h)) ok_X6_init rfl rfl (show (400 : Int32) = nI 400 from rfl) (by decide) (Nat.le_of_ble_eq_true rfl) (Nat.le_of_ble_eq_true rfl) ?_
  change q_J g m_X6_init d 23 980 _ [] _ 2 420 (27, [some (.ref a), none], [.ref (q_nx h + 1), .ref a], (q_X6_init_9 a h))
  refine q_o_putR (h := (q_X6_init_9 a h)) ok_X6_init rfl (by omega) ((q_X6_init_sh9 (a := a) hlt).trans hsh) (show 0 < 2 by decide) rfl ?_
  change q_J g m_X6_init d 23 980 _ [] _ 2 420 (28, [some (.ref a), none], [], (q_X6_init_10 a h))
  refine q_go 2 (c' := (30, [some (.ref a), none], [.int 400, .ref a], (q_X6_init_10 a h))) ok_X6_init rfl ?_
  refine q_o_newarrI (h := (q_X6_init_10 a h)) ok_X6_init rfl (show (400 : Int32) = nI 400 from rfl) (by decide) (Nat.le_of_ble_eq_true rfl) (Nat.le_of_ble_eq_true rfl) ?_
  change q_J g m_X6_init d 23 980 _ [] _ 3 820 (31, [some (.ref a), none], [.ref (q_nx h + 2), .ref a], (q_X6_init_11 a h))
  refine q_o_putR (h := (q_X6_init_11 a h)) ok_X6_init rfl (by omega) ((q_X6_init_sh11 (a := a) hlt).trans hsh) (show 0 < 2 by decide) rfl ?_
  change q_J g m_X6_init d 23 980 _ [] _ 3 820 (32, [some (.ref a), none], [], (q_X6_init_12 a h))
  have sT : ∀ i, q_sh (q_XSt (q_nx h) i (q_X6_init_12 a h)) (q_nx h) = (3, 4, 20) := fun i => (q_XSt_sh (T := q_nx h) (h := (q_X6_init_12 a h)) (x := q_nx h) (show q_nx h < q_nx h + 3 by omega)).trans (by
    show q_ur (q_ur (q_ur (q_sh h) (q_nx h) (3, 4, 20)) (q_nx h + 1) (4, 5, 400)) (q_nx h + 2) (1, 0, 400) (q_nx h) = _
    rw [q_ur_n _ _ _ (show q_nx h ≠ q_nx h + 2 by omega), q_ur_n _ _ _ (show q_nx h ≠ q_nx h + 1 by omega), q_ur_s])
  have rT : ∀ i, q_R (q_XSt (q_nx h) i (q_X6_init_12 a h)) a 6 = some (q_nx h) := fun i => by
    rw [q_XSt_R (T := q_nx h) (h := (q_X6_init_12 a h)) (x := a) (show a < q_nx h + 3 by omega) (by omega)]
    show q_u2 (q_ur (q_u2 (q_ur (q_u2 (q_ur (q_R h) (q_nx h) (fun _ => none)) a 6 (some (q_nx h))) (q_nx h + 1) (fun _ => none)) a 7 (some (q_nx h + 1))) (q_nx h + 2) (fun _ => none)) a 8 (some (q_nx h + 2)) a 6 = _
    rw [q_u2_j _ _ _ _ _ _ (by decide), q_ur_n _ _ _ (show a ≠ q_nx h + 2 by omega), q_u2_j _ _ _ _ _ _ (by decide), q_ur_n _ _ _ (show a ≠ q_nx h + 1 by omega), q_u2_s]
  have sa : ∀ i, q_sh (q_XSt (q_nx h) i (q_X6_init_12 a h)) a = (0, 5, 0) := fun i => (q_XSt_sh (T := q_nx h) (h := (q_X6_init_12 a h)) (x := a) (show a < q_nx h + 3 by omega)).trans ((q_X6_init_sh12 hlt).trans hsh)
  have key : ∀ r i, i + r = 20 → q_J g m_X6_init d 23 980 h [] (fun o h' => o = .inl none ∧ h' = q_F_X6_init a h) (3 + i) (820 + 8 * i) (34, [some (.ref a), some (.int (nI i))], [], q_XSt (q_nx h) i (q_X6_init_12 a h)) := by
    intro r
    induction r with
    | zero =>
      intro i hi
      obtain rfl : i = 20 := by omega
      refine q_if 3 (P := (20 : Int32) ≤ nI 20) (a := (46, [some (.ref a), some (.int (nI 20))], [], q_XSt (q_nx h) 20 (q_X6_init_12 a h))) (b := (37, [some (.ref a), some (.int (nI 20))], [], q_XSt (q_nx h) 20 (q_X6_init_12 a h))) ok_X6_init rfl (fun _ => ?_) (fun h => absurd (by decide) h)
      exact q_o_vret ok_X6_init rfl rfl (Nat.le_of_ble_eq_true rfl) (Nat.le_of_ble_eq_true rfl) ⟨rfl, rfl⟩
    | succ r ih =>
      intro i hi
      have e := q_XSt_nx (T := q_nx h) (h := (q_X6_init_12 a h)) (i := i)
      have e0 : q_nx (q_X6_init_12 a h) = q_nx h + 3 := rfl
      refine q_if 3 (P := (20 : Int32) ≤ nI i) (a := (46, [some (.ref a), some (.int (nI i))], [], q_XSt (q_nx h) i (q_X6_init_12 a h))) (b := (37, [some (.ref a), some (.int (nI i))], [], q_XSt (q_nx h) i (q_X6_init_12 a h))) ok_X6_init rfl (fun h => absurd h (nI_ge (b := 20) (by omega) (by decide))) (fun _ => ?_)
      refine q_go 1 (c' := (38, [some (.ref a), some (.int (nI i))], [.ref a], q_XSt (q_nx h) i (q_X6_init_12 a h))) ok_X6_init rfl ?_
      refine q_o_getR (h := q_XSt (q_nx h) i (q_X6_init_12 a h)) ok_X6_init rfl ha (sa i) (by decide) rfl ?_
      rw [rT i]
      refine q_go 1 (c' := (40, [some (.ref a), some (.int (nI i))], [.int (nI i), .ref (q_nx h)], q_XSt (q_nx h) i (q_X6_init_12 a h))) ok_X6_init rfl ?_
      refine q_o_new (h := q_XSt (q_nx h) i (q_X6_init_12 a h)) ok_X6_init rfl rfl (show vwCl[8]? = some _ from rfl) q_i1_8 q_i2_8 (by omega) (by omega) ?_
      refine q_go 1 (c' := (42, [some (.ref a), some (.int (nI i))], [.ref (q_nx (q_XSt (q_nx h) i (q_X6_init_12 a h))), .ref (q_nx (q_XSt (q_nx h) i (q_X6_init_12 a h))), .int (nI i), .ref (q_nx h)], q_new (q_XSt (q_nx h) i (q_X6_init_12 a h)) (0, 8, 0))) ok_X6_init rfl ?_
      refine q_callI (h := q_new (q_XSt (q_nx h) i (q_X6_init_12 a h)) (0, 8, 0)) (M2 := m_X10_init) (b := q_nx (q_XSt (q_nx h) i (q_X6_init_12 a h))) (As := []) (rest := [.ref (q_nx (q_XSt (q_nx h) i (q_X6_init_12 a h))), .int (nI i), .ref (q_nx h)]) ok_X6_init ok_X10_init rfl (by first | exact Or.inl rfl | exact Or.inr ⟨_, rfl⟩) ci_X10_init rfl (ctn_X10_init (d := 2) (Nat.le_refl _) (h := q_new (q_XSt (q_nx h) i (q_X6_init_12 a h)) (0, 8, 0)) (a := q_nx (q_XSt (q_nx h) i (q_X6_init_12 a h))) (by omega) (Nat.lt_succ_self _) (q_ur_s _ _ _)) (Nat.le_trans (by decide) hd) (by omega) (by omega) (Nat.le_of_ble_eq_true rfl) (fun x hx => absurd hx List.not_mem_nil) (fun _ _ _ => List.not_mem_nil) (fun _ _ => List.not_mem_nil) rfl (fun v h' hq => ?_) (fun E9 h' hq => by cases hq.1)
      obtain ⟨e1, e2⟩ := hq
      cases e1
      subst e2
      refine q_o_aastR (h := q_F_X10_init (q_nx (q_XSt (q_nx h) i (q_X6_init_12 a h))) (q_new (q_XSt (q_nx h) i (q_X6_init_12 a h)) (0, 8, 0))) (j := i) (cb := 0) (vb := 0) ok_X6_init rfl (by omega) ((fs_X10_init (show q_nx h < q_nx (q_XSt (q_nx h) i (q_X6_init_12 a h)) + 1 by omega)).trans ((q_ur_n _ _ _ (show q_nx h ≠ q_nx (q_XSt (q_nx h) i (q_X6_init_12 a h)) by omega)).trans (sT i))) rfl (by omega) (by decide) (by omega) ((fs_X10_init (Nat.lt_succ_self _)).trans (q_ur_s _ _ _)) ?_
      refine q_go 2 (c' := (34, [some (.ref a), some (.int (nI i + 1))], [], q_XSt (q_nx h) (i + 1) (q_X6_init_12 a h))) ok_X6_init rfl ?_
      rw [← nI_succ]
      have h9 := ih (i + 1) (by omega)
      exact h9
  refine q_go 2 (c' := (34, [some (.ref a), some (.int (nI 0))], [], q_XSt (q_nx h) 0 (q_X6_init_12 a h))) ok_X6_init rfl ?_
  exact key 20 0 (by omega)
