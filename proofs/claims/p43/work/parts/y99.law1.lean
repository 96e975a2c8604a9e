/-! THE LAW, from its entry to its loop, two -/
section LAW1
variable {xt : List ExceptionTableEntry} {g : q_G} {mc ms : Nat} {mv : List Nat} {Q : q_Po}
set_option maxRecDepth 20000 in
/-- the class is made, the text is made and taught -/
theorem la_11 {k n s : Nat} {h : q_H} (hmv : ∀ x ∈ q_mvC, x ∈ mv) (hk : k + 102 ≤ mc) (hn : n + 2016 ≤ ms) (hN : 400 ≤ q_nx h) (hP : be_P q_h00 400 s h)
    (hK : ∀ h' k' n', k' ≤ k + 102 → n' ≤ n + 2016 → la_R 0 h' (s + 92) → la_K xt g mc ms mv Q k' n' (19, la_l3 (s + 92), [], h')) : la_K xt g mc ms mv Q k n (11, [some (.ref 52), some (.ref 492), some (.ref (s + 92)), none, none, none, none, none, none, none, none, none, none, none, none, none, none, none, none, none, none, none, none, none], [.ref 400], fl_H h) := by
  obtain ⟨H, hf, up, pr, ns, R, b1, b2, b3, hF, hG, L, hB, hL⟩ := hP
  have h13 := tx_nf13
  have hB9 := fl_B (show 400 ≤ q_nx q_h00 from Nat.le_refl _) hB
  have hR6 : ∀ j, j < ns → zp_Ln 6 (R j) := fun j hj => zp_Ln6 b1.1.2 (b3 j hj)
  have hlen := zs_all_len (hf := hf) (pr := pr) (m := up) (H := H) b1.1.2 b2 hR6
  have hs : 400 ≤ s := hF.1.1
  refine w_L_lw_11 (by decide) ⟨⟨by decide, hB9.2.2.2.1⟩, ?_⟩
  refine q_cR_of _ (tx_toS (d := 1000) (by decide) (by decide) hB9 (by omega)) (by decide) (show 59 + 64 * 1000 ≤ q_lc 2048 by decide) (by omega) (by omega) trivial (fun x h5 hp => ?_)
  obtain ⟨x1, e5, hS⟩ := hp
  have hC := fl_Cls hN
  have hx : 492 ≤ x := by rw [x1]; exact hC.1
  have eI : ∀ a, a < 492 → q_I h5 a = q_I q_Z12_22 a := fun a ha => (e5.2 a (Nat.lt_of_lt_of_le ha hC.1)).2.1.trans (fl_I4 ha)
  obtain ⟨m1, m2, m3⟩ := fl_Sim hF (by omega)
  have hS5 := la_hi e5
  obtain ⟨f1, f2, f3⟩ := hS5.2 (s + 92) (by omega) (by show s + 92 < q_nx h + 92; have := hF.1.2; omega)
  have hA : ta_A h5 x (zs_all hf pr up H R ns) := ⟨z_Cls_fr hC (z_fr_ext e5), z_Sep_fr hC fl_Sep (z_fr_ext e5), hx, hS, zs_all_as (by omega) (by omega) (by omega) b1.1.2 hR6, hlen⟩
  refine la_15 hmv (by omega) (by omega) b1 b2 b3 hA (by omega) (la_S_Sim hS5 m1) (by rw [f2]; exact m2) (by rw [f3]; exact m3) (la_S_Rows hS5 ⟨by omega, by show s + 92 < q_nx h + 92; have := hF.1.2; omega⟩ (fl_Rows hs hG)) (by rw [eI 400 (by decide)]; exact fl_Z7) (fun j hj => ⟨0, by decide, by rw [eI 401 (by decide)]; exact fl_z_of fl_z401 j hj⟩) (by
    rw [eI 457 (by decide), eI 459 (by decide), eI 460 (by decide), eI 461 (by decide), eI 462 (by decide), eI 463 (by decide), eI 464 (by decide), eI 465 (by decide), eI 466 (by decide), eI 470 (by decide), eI 471 (by decide)]
    exact fl_R0) (fun h' hr => hK h' _ _ (by omega) (by omega) hr)
set_option maxRecDepth 20000 in
theorem la_8 {k n s : Nat} {h : q_H} (hmv : ∀ x ∈ q_mvC, x ∈ mv) (hk : k + 194 ≤ mc) (hn : n + 11040 ≤ ms) (hN : 401 ≤ q_nx h) (hs : 400 ≤ s ∧ s < q_nx h) (hP : be_P q_h00 400 s h)
    (hK : ∀ h' k' n', k' ≤ k + 194 → n' ≤ n + 11040 → la_R 0 h' (s + 92) → la_K xt g mc ms mv Q k' n' (19, la_l3 (s + 92), [], h')) : la_K xt g mc ms mv Q k n (8, [some (.ref 52), some (.ref 400), some (.ref s), none, none, none, none, none, none, none, none, none, none, none, none, none, none, none, none, none, none, none, none, none], [], h) := by
  refine k_cloI (fun hC => ?_)
  refine k_o_new okB_L_lw rfl rfl (show vwCl[10]? = some _ from rfl) q_i1_10 q_i2_10 (by omega) (by omega) ?_
  refine k_go 1 (c' := (10, [some (.ref 52), some (.ref 400), some (.ref s), none, none, none, none, none, none, none, none, none, none, none, none, none, none, none, none, none, none, none, none, none], [.ref (q_nx h), .ref (q_nx h)], q_new h (0, 10, 0))) okB_L_lw rfl ?_
  refine k_callI (M2 := m_X12_init) (b := q_nx h) (As := []) (rest := [.ref (q_nx h)]) okB_L_lw ok_X12_init rfl (Or.inl rfl) ci_X12_init rfl (fl_ctor (d := 1000) (by decide) (by omega) hC) (by decide) (show 59 + 64 * 1000 ≤ q_lc 2048 by decide) (by omega) (by omega) (Nat.le_of_ble_eq_true rfl) (fun x hx => absurd hx List.not_mem_nil) (fun _ _ _ => List.not_mem_nil) (fun _ _ => List.not_mem_nil) rfl (fun v h' hq => ?_) (fun E h' hq => by cases hq.1)
  obtain ⟨e1, e2⟩ := hq
  cases e1
  subst e2
  have s52 : fl_s (q_nx h) 52 = 52 := if_pos (by decide)
  have s492 : fl_s (q_nx h) 492 = 400 := by unfold fl_s; rw [if_neg (by decide), if_neg (by decide)]
  have ss : fl_s (q_nx h) (s + 92) = s := by unfold fl_s; rw [if_neg (by omega), if_neg (by omega)]; omega
  have s400 : fl_s (q_nx h) 400 = q_nx h := by unfold fl_s; rw [if_neg (by decide), if_pos (by decide)]; omega
  refine fl_view (ls' := [some (.ref 52), some (.ref 492), some (.ref (s + 92)), none, none, none, none, none, none, none, none, none, none, none, none, none, none, none, none, none, none, none, none, none]) (st' := [.ref 400]) (by omega) hC (Nat.le_refl _) ?_ ?_ (fun a ha => ?_) (fun i a hi => ?_) ?_
  · show ([some (.ref 52), some (.ref 400), some (.ref s), none, none, none, none, none, none, none, none, none, none, none, none, none, none, none, none, none, none, none, none, none] : List (Option Value)) = ([some (.ref (fl_s (q_nx h) 52)), some (.ref (fl_s (q_nx h) 492)), some (.ref (fl_s (q_nx h) (s + 92))), none, none, none, none, none, none, none, none, none, none, none, none, none, none, none, none, none, none, none, none, none] : List (Option Value))
    rw [s52, s492, ss]
  · show ([.ref (q_nx h)] : List Value) = ([.ref (fl_s (q_nx h) 400)] : List Value)
    rw [s400]
  · cases List.mem_singleton.mp ha
    show 400 < q_nx h + 92
    omega
  · rw [q_nth_eq] at hi
    have h9 := List.mem_of_getElem? hi
    simp at h9
    have h8 : @Eq Nat a 52 ∨ @Eq Nat a 492 ∨ @Eq Nat a (s + 92) := h9
    show @LT.lt Nat _ a (q_nx h + 92)
    omega
  · exact la_11 hmv (by omega) (by omega) (by omega) hP (fun h' k' n' h1 h2 hr => hK h' k' n' (by omega) (by omega) hr)
set_option maxRecDepth 200000 in
/-- the law comes to its loop, with class and law at rest -/
theorem la_law0 (hg : g.2.length < 2147483648) (hmv : ∀ x ∈ q_mvC, x ∈ mv) (hmc : 13000 ≤ mc) (hms : 60000 ≤ ms)
    (hK : ∀ h' s k' n', k' ≤ 13000 → n' ≤ 60000 → la_R 0 h' s → la_K xt g mc ms mv Q k' n' (19, la_l3 s, [], h')) : la_K xt g mc ms mv Q 0 0 (0, la_l0, [], q_h00) := by
  have h14 := tx_nf14
  refine w_L_lw_0 (by decide) ⟨⟨by omega, by omega⟩, ?_⟩
  refine q_cV_of _ (tx_init (d := 1000) (h := q_h00) (by decide) (by decide) (Nat.le_refl _)) (by decide) (show 59 + 64 * 1000 ≤ q_lc 2048 by decide) (by omega) (by omega) trivial (fun h1 hB => ?_)
  refine q_cR_of _ (be_barnP (d := 1000) (by decide) (by decide) hg rfl hB) (by decide) (show 59 + 64 * 1000 ≤ q_lc 2048 by decide) (by omega) (by omega) trivial (fun s h4 hP => ?_)
  have hP2 := hP
  obtain ⟨H, hf, up, pr, ns, R, b1, b2, b3, hF, hG, L, hB4, hL⟩ := hP2
  have hb := hB4.2.2.1.2
  have hb : 400 < q_nx h4 := hb
  exact la_8 hmv (by omega) (by omega) (by omega) hF.1 hP (fun h' k' n' a1 a2 hr => hK h' _ k' n' (by omega) (by omega) hr)
end LAW1
