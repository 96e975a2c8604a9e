/-! pieces of the law's code, as formulas (printed by wip/gen43) -/
theorem q_okB_of {M : q_M} (h : q_okM M = true) : q_okB M = true := by
  unfold q_okM at h
  simp only [Bool.and_eq_true] at h
  exact h.1
theorem okB_L_below : q_okB m_L_below = true := q_okB_of ok_L_below
set_option maxRecDepth 100000 in
theorem okC_L_below : q_okC m_L_below = true := by decide +kernel
theorem okB_L_cell : q_okB m_L_cell = true := q_okB_of ok_L_cell
set_option maxRecDepth 100000 in
theorem okC_L_cell : q_okC m_L_cell = true := by decide +kernel
theorem okB_X14_used : q_okB m_X14_used = true := q_okB_of ok_X14_used
set_option maxRecDepth 100000 in
theorem okC_X14_used : q_okC m_X14_used = true := by decide +kernel
theorem okB_X14_isIn : q_okB m_X14_isIn = true := q_okB_of ok_X14_isIn
set_option maxRecDepth 100000 in
theorem okC_X14_isIn : q_okC m_X14_isIn = true := by decide +kernel
theorem okB_X14_with : q_okB m_X14_with = true := q_okB_of ok_X14_with
set_option maxRecDepth 100000 in
theorem okC_X14_with : q_okC m_X14_with = true := by decide +kernel
theorem w_L_below_0 {g : q_G} {xt : List ExceptionTableEntry} {d mc ms : Nat} {h0 : q_H} {mv : List Nat} {Q : q_Po} {k n : Nat} {h : q_H} {v0 : Int32} {v1 : Int32}  (hd1 : 1 ≤ d)
    (hf : (¬ v1 = 0 ∧ (narrow .int (.int ((v0 &&& (2147483647 : Int32)) - (v0 &&& (2147483647 : Int32)) / v1 * v1)) = .int ((v0 &&& (2147483647 : Int32)) - (v0 &&& (2147483647 : Int32)) / v1 * v1) ∧ (k ≤ mc ∧ n ≤ ms) ∧ Q (.inl (some (.int ((v0 &&& (2147483647 : Int32)) - (v0 &&& (2147483647 : Int32)) / v1 * v1)))) h))) :
    q_K g m_L_below xt d mc ms h0 mv Q k n (0, [some (.int v0), some (.int v1)], [], h) :=
  q_w1_K (K0 := fun k n c => q_K g m_L_below xt d mc ms h0 mv Q k n c) (an := []) (sw := []) (cu := []) 600 hd1 okB_L_below okC_L_below (fun _ _ _ h => h) hf
theorem w_L_cell_0 {g : q_G} {xt : List ExceptionTableEntry} {d mc ms : Nat} {h0 : q_H} {mv : List Nat} {Q : q_Po} {k n : Nat} {h : q_H} {v0 : Nat} {v1 : Int32}  (hd1 : 1 ≤ d)
    (hf : (v0 = 52 ∧ (((nI g.2.length) ≤ v1 → (narrow .int (.int ((790386105 : Int32) * (v1 + (3 : Int32)))) = .int ((790386105 : Int32) * (v1 + (3 : Int32))) ∧ (k ≤ mc ∧ n ≤ ms) ∧ Q (.inl (some (.int ((790386105 : Int32) * (v1 + (3 : Int32)))))) h)) ∧ (¬ (nI g.2.length) ≤ v1 → (∃ j1, v0 = 52 ∧ v1 = nI j1 ∧ (j1 < g.2.length ∧ g.2.length < 2147483648) ∧ (narrow .int (.int (g.2.getD j1 0)) = .int (g.2.getD j1 0) ∧ (k ≤ mc ∧ n ≤ ms) ∧ Q (.inl (some (.int (g.2.getD j1 0)))) h)))))) :
    q_K g m_L_cell xt d mc ms h0 mv Q k n (0, [some (.ref v0), some (.int v1)], [], h) :=
  q_w1_K (K0 := fun k n c => q_K g m_L_cell xt d mc ms h0 mv Q k n c) (an := [(2, 52), (6, 52)]) (sw := []) (cu := []) 600 hd1 okB_L_cell okC_L_cell (fun _ _ _ h => h) hf
theorem w_X14_used_0 {g : q_G} {xt : List ExceptionTableEntry} {d mc ms : Nat} {h0 : q_H} {mv : List Nat} {Q : q_Po} {k n : Nat} {h : q_H} {v0 : Nat}  (hd1 : 1 ≤ d)
    (hf : (∃ L1, (400 ≤ v0 ∧ q_sh h v0 = (3, 6, L1)) ∧ q_K g m_X14_used xt d mc ms h0 mv Q k n (9, [none, some (.int (0 : Int32)), some (.ref v0), some (.int (nI L1)), some (.int (0 : Int32)), none], [], h))) :
    q_K g m_X14_used xt d mc ms h0 mv Q k n (0, [some (.ref v0), none, none, none, none, none], [], h) :=
  q_w1_K (K0 := fun k n c => q_K g m_X14_used xt d mc ms h0 mv Q k n c) (an := [(5, 6)]) (sw := []) (cu := [(9, [false, true, true, true, true, false])]) 600 hd1 okB_X14_used okC_X14_used (fun _ _ _ h => h) hf
theorem w_X14_used_9 {g : q_G} {xt : List ExceptionTableEntry} {d mc ms : Nat} {h0 : q_H} {mv : List Nat} {Q : q_Po} {k n : Nat} {h : q_H} {v1 : Int32} {v2 : Nat} {v3 : Int32} {v4 : Int32}  (hd1 : 1 ≤ d)
    (hf : ((v3 ≤ v4 → (narrow .int (.int v1) = .int v1 ∧ (k ≤ mc ∧ n ≤ ms) ∧ Q (.inl (some (.int v1))) h)) ∧ (¬ v3 ≤ v4 → (∃ j1 L2, v4 = nI j1 ∧ (400 ≤ v2 ∧ q_sh h v2 = (3, 6, L2) ∧ j1 < L2 ∧ q_s16 L2) ∧ ∃ b3, q_R h v2 j1 = some b3 ∧ ((400 ≤ b3 ∧ q_sh h b3 = (0, 11, 0)) ∧ q_K g m_X14_used xt d mc ms h0 mv Q k n (9, [none, some (.int (v1 + (q_I h b3 0))), some (.ref v2), some (.int v3), some (.int (v4 + 1)), none], [], h)))))) :
    q_K g m_X14_used xt d mc ms h0 mv Q k n (9, [none, some (.int v1), some (.ref v2), some (.int v3), some (.int v4), none], [], h) :=
  q_w1_K (K0 := fun k n c => q_K g m_X14_used xt d mc ms h0 mv Q k n c) (an := [(14, 6)]) (sw := []) (cu := [(9, [false, true, true, true, true, false])]) 600 hd1 okB_X14_used okC_X14_used (fun _ _ _ h => h) hf
theorem w_X14_isIn_0 {g : q_G} {xt : List ExceptionTableEntry} {d mc ms : Nat} {h0 : q_H} {mv : List Nat} {Q : q_Po} {k n : Nat} {h : q_H} {v0 : Nat} {v1 : Nat}  (hd1 : 1 ≤ d)
    (hf : (∃ L1, (400 ≤ v0 ∧ q_sh h v0 = (3, 6, L1)) ∧ q_K g m_X14_isIn xt d mc ms h0 mv Q k n (7, [none, some (.ref v1), some (.ref v0), some (.int (nI L1)), some (.int (0 : Int32)), none], [], h))) :
    q_K g m_X14_isIn xt d mc ms h0 mv Q k n (0, [some (.ref v0), some (.ref v1), none, none, none, none], [], h) :=
  q_w1_K (K0 := fun k n c => q_K g m_X14_isIn xt d mc ms h0 mv Q k n c) (an := [(3, 6)]) (sw := []) (cu := [(7, [false, true, true, true, true, false])]) 600 hd1 okB_X14_isIn okC_X14_isIn (fun _ _ _ h => h) hf
theorem w_X14_isIn_7 {g : q_G} {xt : List ExceptionTableEntry} {d mc ms : Nat} {h0 : q_H} {mv : List Nat} {Q : q_Po} {k n : Nat} {h : q_H} {v1 : Nat} {v2 : Nat} {v3 : Int32} {v4 : Int32}  (hd1 : 1 ≤ d)
    (hf : ((v3 ≤ v4 → (narrow .boolean (.int (0 : Int32)) = .int (0 : Int32) ∧ (k ≤ mc ∧ n ≤ ms) ∧ Q (.inl (some (.int (0 : Int32)))) h)) ∧ (¬ v3 ≤ v4 → (∃ j1 L2, v4 = nI j1 ∧ (400 ≤ v2 ∧ q_sh h v2 = (3, 6, L2) ∧ j1 < L2 ∧ q_s16 L2) ∧ ∃ b3, q_R h v2 j1 = some b3 ∧ (400 ≤ b3 ∧ 400 ≤ v1 ∧ ((¬ b3 = v1 → q_K g m_X14_isIn xt d mc ms h0 mv Q k n (7, [none, some (.ref v1), some (.ref v2), some (.int v3), some (.int (v4 + 1)), none], [], h)) ∧ (b3 = v1 → (narrow .boolean (.int (1 : Int32)) = .int (1 : Int32) ∧ (k ≤ mc ∧ n ≤ ms) ∧ Q (.inl (some (.int (1 : Int32)))) h)))))))) :
    q_K g m_X14_isIn xt d mc ms h0 mv Q k n (7, [none, some (.ref v1), some (.ref v2), some (.int v3), some (.int v4), none], [], h) :=
  q_w1_K (K0 := fun k n c => q_K g m_X14_isIn xt d mc ms h0 mv Q k n c) (an := [(12, 6)]) (sw := []) (cu := [(7, [false, true, true, true, true, false])]) 600 hd1 okB_X14_isIn okC_X14_isIn (fun _ _ _ h => h) hf
theorem w_X14_with_0 {g : q_G} {xt : List ExceptionTableEntry} {d mc ms : Nat} {h0 : q_H} {mv : List Nat} {Q : q_Po} {k n : Nat} {h : q_H} {v0 : Nat} {v1 : Nat}  (hd1 : 1 ≤ d)
    (hf : (∃ L1, (400 ≤ v0 ∧ q_sh h v0 = (3, 6, L1)) ∧ (∃ L2, ((nI L1) + (1 : Int32)) = nI L2 ∧ q_s16 L2 ∧ (k + 1 ≤ mc ∧ n + L2 ≤ ms) ∧ q_K g m_X14_with xt d mc ms h0 mv Q (k + 1) (n + L2) (8, [some (.ref v0), some (.ref v1), some (.ref (q_nx h)), some (.int (0 : Int32))], [], q_new h (3, 6, L2))))) :
    q_K g m_X14_with xt d mc ms h0 mv Q k n (0, [some (.ref v0), some (.ref v1), none, none], [], h) :=
  q_w1_K (K0 := fun k n c => q_K g m_X14_with xt d mc ms h0 mv Q k n c) (an := [(1, 6)]) (sw := []) (cu := [(8, [true, true, true, true])]) 600 hd1 okB_X14_with okC_X14_with (fun _ _ _ h => h) hf
theorem w_X14_with_8 {g : q_G} {xt : List ExceptionTableEntry} {d mc ms : Nat} {h0 : q_H} {mv : List Nat} {Q : q_Po} {k n : Nat} {h : q_H} {v0 : Nat} {v1 : Nat} {v2 : Nat} {v3 : Int32}  (hd1 : 1 ≤ d)
    (hf : (∃ L1, (400 ≤ v0 ∧ q_sh h v0 = (3, 6, L1)) ∧ (((nI L1) ≤ v3 → (∃ L2, (400 ≤ v0 ∧ q_sh h v0 = (3, 6, L2)) ∧ (∃ j3 L4, (nI L2) = nI j3 ∧ (400 ≤ v2 ∧ q_sh h v2 = (3, 6, L4) ∧ j3 < L4 ∧ q_s16 L4) ∧ (400 ≤ v1 ∧ q_sh h v1 = (0, 11, 0)) ∧ ((k ≤ mc ∧ n ≤ ms) ∧ Q (.inl (some (.ref v2))) (q_pR h v2 j3 (some v1)))))) ∧ (¬ (nI L1) ≤ v3 → (∃ j5 L6, v3 = nI j5 ∧ (400 ≤ v0 ∧ q_sh h v0 = (3, 6, L6) ∧ j5 < L6 ∧ q_s16 L6) ∧ ∃ b7, q_R h v0 j5 = some b7 ∧ (∃ j8 L9, v3 = nI j8 ∧ (400 ≤ v2 ∧ q_sh h v2 = (3, 6, L9) ∧ j8 < L9 ∧ q_s16 L9) ∧ (400 ≤ b7 ∧ q_sh h b7 = (0, 11, 0)) ∧ q_K g m_X14_with xt d mc ms h0 mv Q k n (8, [some (.ref v0), some (.ref v1), some (.ref v2), some (.int (v3 + 1))], [], q_pR h v2 j8 (some b7)))))))) :
    q_K g m_X14_with xt d mc ms h0 mv Q k n (8, [some (.ref v0), some (.ref v1), some (.ref v2), some (.int v3)], [], h) :=
  q_w1_K (K0 := fun k n c => q_K g m_X14_with xt d mc ms h0 mv Q k n c) (an := [(10, 6), (16, 6), (17, 6), (22, 6), (24, 6)]) (sw := []) (cu := [(8, [true, true, true, true])]) 600 hd1 okB_X14_with okC_X14_with (fun _ _ _ h => h) hf
