/-! THE LAW FROM ITS ENTRY -/
def q_Zf : q_H := q_new q_Z15_30 (2, 3, 1)
theorem q_Zf_nx : q_nx q_Zf = 529 := by decide +kernel
theorem q_ckZ : q_ck id (q_R q_Zf) (q_sh q_Zf) = true := by decide +kernel
set_option maxRecDepth 100000 in
theorem q_Zf3 : ∀ a j, a = 403 ∨ a = 427 → 20 ≤ j → q_R q_Zf (id a) j = none := by
  intro a j ha hj
  obtain ⟨z, rfl⟩ : ∃ z, j = z + 20 := ⟨j - 20, by omega⟩
  rcases ha with rfl | rfl <;> rfl
def q_z0 (b lo hi : Nat) (v : Int32) : Bool := (List.range hi).all fun j => Nat.blt j lo || decide (q_I q_Zf b j = v)
theorem q_z0_of {b lo hi : Nat} {v : Int32} (h : q_z0 b lo hi v = true) : ∀ j, lo ≤ j → j < hi → q_I q_Zf b j = v := by
  intro j h1 h2
  have h3 := List.all_eq_true.mp h j (List.mem_range.mpr h2)
  rw [Bool.or_eq_true] at h3
  rcases h3 with h3 | h3
  · have := Nat.blt_eq.mp h3; omega
  · exact of_decide_eq_true h3
theorem q_z459 : q_z0 459 0 128 0 = true := by decide +kernel
theorem q_z460 : q_z0 460 0 128 0 = true := by decide +kernel
theorem q_z461 : q_z0 461 0 128 0 = true := by decide +kernel
theorem q_z462 : q_z0 462 0 128 0 = true := by decide +kernel
theorem q_z463 : q_z0 463 0 128 0 = true := by decide +kernel
theorem q_z514 : q_z0 514 0 136 0 = true := by decide +kernel
theorem q_z515 : q_z0 515 0 128 0 = true := by decide +kernel
theorem q_z516 : q_z0 516 0 128 0 = true := by decide +kernel
theorem q_z517 : q_z0 517 0 128 0 = true := by decide +kernel
theorem q_z518 : q_z0 518 0 128 0 = true := by decide +kernel
set_option maxRecDepth 100000 in
theorem q_z519 : q_z0 519 0 408 0 = true := by decide +kernel
theorem q_z466 : q_z0 466 0 64 (-1) = true := by decide +kernel
theorem q_z470 : q_z0 470 0 6 (-1) = true := by decide +kernel
theorem q_z513 : q_z0 513 0 6 (-1) = true := by decide +kernel
set_option maxRecDepth 100000 in
theorem q_z401 : q_z0 401 0 2000 0 = true := by decide +kernel
set_option maxRecDepth 100000 in
theorem q_z493 : q_z0 493 0 2000 0 = true := by decide +kernel
theorem q_RL_0 : q_RL 0 (q_I q_Zf) (q_E q_Zf) := by
  refine ⟨0, 16, 16, 0, 0, [], ⟨⟨by decide +kernel, by decide +kernel, by decide +kernel, by decide +kernel, by decide +kernel, by decide +kernel, by decide +kernel⟩, by decide +kernel, by decide +kernel, by decide, by decide +kernel, by decide, fun k hk => absurd hk (by omega)⟩, ?_, ⟨0, 0, by decide +kernel, by decide +kernel, Nat.le_refl _, Nat.le_refl _⟩, ⟨⟨0, by decide, by decide +kernel, by decide +kernel⟩, fun j hj => ?_, by decide +kernel⟩⟩
  · refine m_R_0 (by decide) (by decide) (by decide) (fun b hb => q_z0_of q_z459 b (Nat.zero_le _) hb) (fun b hb => q_z0_of q_z514 b (Nat.zero_le _) hb) (fun b hb => ?_) ⟨fun b hb => ⟨0, by decide, q_z0_of q_z463 b (Nat.zero_le _) hb, fun r hr => absurd hr (by omega)⟩, fun k hk => Or.inr ⟨0, by decide, q_z0_of q_z519 k (Nat.zero_le _) hk⟩⟩ (by decide +kernel) (by decide +kernel) ⟨by decide +kernel, by decide +kernel, by decide +kernel, by decide +kernel, by decide +kernel, by decide +kernel⟩ (by decide +kernel) (by decide +kernel) (fun q hq => q_z0_of q_z466 q (Nat.zero_le _) hq) (fun i hi => q_z0_of q_z470 i (Nat.zero_le _) hi) (fun i hi => q_z0_of q_z513 i (Nat.zero_le _) hi)
    rw [q_z0_of q_z515 b (Nat.zero_le _) hb, q_z0_of q_z516 b (Nat.zero_le _) hb, q_z0_of q_z518 b (Nat.zero_le _) hb, q_z0_of q_z517 b (Nat.zero_le _) hb, q_z0_of q_z460 b (Nat.zero_le _) hb, q_z0_of q_z461 b (Nat.zero_le _) hb, q_z0_of q_z462 b (Nat.zero_le _) hb, q_z0_of q_z463 b (Nat.zero_le _) hb]
    exact ⟨rfl, rfl, rfl, rfl⟩
  · rw [q_z0_of q_z401 j (Nat.zero_le _) hj, q_z0_of q_z493 j (Nat.zero_le _) hj]
    exact ⟨rfl, 0, by decide, rfl⟩
set_option maxHeartbeats 4000000 in
set_option maxRecDepth 100000 in
theorem q_LK_all {xt : List ExceptionTableEntry} {g : q_G} (hL : g.2.length ≤ 3072) : q_LK xt g 0 0 (0, [some (.ref 52), none, none, none, none, none, none, none, none], [], q_h00) := by
  refine k_o_new (h := q_h00) okB_L_law rfl rfl (show vwCl[10]? = some _ from rfl) q_i1_10 q_i2_10 (Nat.le_of_ble_eq_true rfl) (Nat.le_of_ble_eq_true rfl) ?_
  change q_LK xt g 1 9 (1, [some (.ref 52), none, none, none, none, none, none, none, none], [.ref 400], q_h01)
  refine k_go 1 (c' := (2, [some (.ref 52), none, none, none, none, none, none, none, none], [.ref 400, .ref 400], q_h01)) okB_L_law rfl ?_
  refine k_callI (h := q_h01) (M2 := m_X12_init) (b := 400) (As := []) (rest := [.ref 400]) okB_L_law ok_X12_init rfl (Or.inl rfl) ci_X12_init rfl (ctc_X12_init_400 (d := 410) (by decide)) (by decide) (show 59 + 64 * 410 ≤ 84000 by decide) (Nat.le_of_ble_eq_true rfl) (Nat.le_of_ble_eq_true rfl) (by decide) (fun x hx => absurd hx List.not_mem_nil) (fun _ _ _ => List.not_mem_nil) (fun _ _ => List.not_mem_nil) rfl (fun v h' hq => ?_) (fun E9 h' hq => by cases hq.1)
  obtain ⟨e1, e2⟩ := hq
  cases e1
  subst e2
  change q_LK xt g 92 9023 (3, [some (.ref 52), none, none, none, none, none, none, none, none], [.ref 400], q_Z12_22)
  refine k_go 1 (c' := (4, [some (.ref 52), some (.ref 400), none, none, none, none, none, none, none], [], q_Z12_22)) okB_L_law rfl ?_
  refine k_o_new (h := q_Z12_22) okB_L_law rfl rfl (show vwCl[13]? = some _ from rfl) q_i1_13 q_i2_13 (Nat.le_of_ble_eq_true rfl) (Nat.le_of_ble_eq_true rfl) ?_
  rw [show q_nx q_Z12_22 = 492 from by decide +kernel]
  change q_LK xt g 93 9042 (5, [some (.ref 52), some (.ref 400), none, none, none, none, none, none, none], [.ref 492], q_h02)
  refine k_go 1 (c' := (6, [some (.ref 52), some (.ref 400), none, none, none, none, none, none, none], [.ref 492, .ref 492], q_h02)) okB_L_law rfl ?_
  refine k_callI (h := q_h02) (M2 := m_X15_init) (b := 492) (As := []) (rest := [.ref 492]) okB_L_law ok_X15_init rfl (Or.inl rfl) ci_X15_init rfl (ctc_X15_init_492 (d := 410) (by decide)) (by decide) (show 59 + 64 * 410 ≤ 84000 by decide) (Nat.le_of_ble_eq_true rfl) (Nat.le_of_ble_eq_true rfl) (by decide) (fun x hx => absurd hx List.not_mem_nil) (fun _ _ _ => List.not_mem_nil) (fun _ _ => List.not_mem_nil) rfl (fun v h' hq => ?_) (fun E9 h' hq => by cases hq.1)
  obtain ⟨e1, e2⟩ := hq
  cases e1
  subst e2
  change q_LK xt g 128 17295 (7, [some (.ref 52), some (.ref 400), none, none, none, none, none, none, none], [.ref 492], q_Z15_30)
  refine k_go 2 (c' := (9, [some (.ref 52), some (.ref 400), some (.ref 492), none, none, none, none, none, none], [.int 1], q_Z15_30)) okB_L_law rfl ?_
  refine k_o_newarrL (h := q_Z15_30) (L := 1) okB_L_law rfl (show (1 : Int32) = nI 1 from rfl) (by decide) (Nat.le_of_ble_eq_true rfl) (Nat.le_of_ble_eq_true rfl) ?_
  rw [show q_nx q_Z15_30 = 528 from by decide +kernel]
  change q_LK xt g 129 17296 (10, [some (.ref 52), some (.ref 400), some (.ref 492), none, none, none, none, none, none], [.ref 528], q_Zf)
  refine k_go 3 (c' := (13, [some (.ref 52), some (.ref 400), some (.ref 492), some (.ref 528), some (.int 0), none, none, none, none], [], q_Zf)) okB_L_law rfl ?_
  have hz : q_Zf = ((529, q_sh q_Zf, q_I q_Zf, q_R q_Zf, q_E q_Zf, q_L q_Zf) : q_H) := by
    have h1 : ((q_nx q_Zf, q_sh q_Zf, q_I q_Zf, q_R q_Zf, q_E q_Zf, q_L q_Zf) : q_H) = q_Zf := rfl
    rw [q_Zf_nx] at h1
    exact h1.symm
  rw [hz]
  refine k_vck id (Rz := q_R q_Zf) (Sz := q_sh q_Zf) (N := 529) (I := q_I q_Zf) (E := q_E q_Zf) (L := q_L q_Zf) (ls' := [some (.ref 52), some (.ref 400), some (.ref 492), some (.ref 528), some (.int 0), none, none, none, none]) (st' := []) q_ckZ q_Zf3 (q_rgI (Nat.le_refl _)) (Nat.le_refl _) (fun a b _ _ h => h) (fun a _ => rfl) (show 400 ≤ 529 by decide) rfl rfl (fun a ha => absurd ha List.not_mem_nil) (q_ref9 rfl) (fun a _ _ => rfl) ?_
  have h9 := q_LK_loop (xt := xt) (g := g) hL 512 0 (by omega) (by omega) (fun a => q_I q_Zf (id a)) (fun a => q_E q_Zf (id a)) (fun a => q_L q_Zf (id a)) q_RL_0
  exact k_Jwd (Nat.le_refl _) (by decide) h9
