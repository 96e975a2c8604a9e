/-! TEXTS MADE, six: a step told is zs_told (printed by wip/gen43/gt5.py) -/
theorem tx_md : ∀ a : Nat, a < 12 → nI a - nI a / (3 : Int32) * 3 = nI (a % 3) := by decide +kernel
section TOLD2
variable {g : q_G} {d : Nat} {h h0 : q_H} {k n w s v1 v2 v3 v4 v5 : Nat} {q : Nat → Nat}
theorem to_260 (hd : 8 ≤ d) (hd2 : d < 2048) (hq : zp_Ln 6 q) (hI : to_I h0 h q w) (hR : to_R h0 h q s 7) (hv4 : tx_S h v4 (zs_does q)) (hk : k ≤ 621) (hn : n ≤ 1667) : q_K g m_L_told [] d 800 2100 h0 [] (to_Q h0 q) k n (260, [some (.ref w), none, none, none, some (.ref v4), none, none, none], [.ref s], h) := by
  obtain ⟨c0, c1, c2, c3, c4, c5, c6, c7, c8⟩ := id hq
  have hnx : 400 ≤ q_nx h := Nat.le_trans hI.1 hI.2.1.1
  obtain ⟨dl, da⟩ := to_dl hq
  obtain ⟨tl, ta⟩ := to_tl hq (i := q 6) (by omega)
  refine w_L_told_260 (by omega) (tx_cNew (by omega) hd2 hnx (by omega) (by omega) (fun k1 n1 h1 W1 => ⟨tx_W_sh W1, ?_⟩))
  refine tx_cS (m2 := 36) (by omega) hd2 W1 (tx_S_ext (tx_W_ext W1) hv4) da dl (by omega) (by omega) (by omega) (fun k2 n2 h2 W2 => ?_)
  have I2 := to_I_ext (tx_W_ext W2) hI
  have R2 := to_R_ext (tx_W_ext W2) hR
  obtain ⟨t, t1, t2⟩ := R2.2.2 (q 6) (by omega)
  refine ⟨6, 9, rfl, to_ac I2 (by decide), q 6, 7, I2.2.2.2.2 6 (by decide), to_ar hI.1 R2 (by omega), t, t1, tx_W_sh W2, ?_⟩
  refine tx_cS (m2 := 35) (by omega) hd2 W2 t2 ta tl (by omega) (by omega) (by omega) (fun k3 n3 h3 W3 => ⟨tx_W_sh W3, ?_⟩)
  refine tx_cT (by omega) hd2 W3 (by omega) (by omega) (by omega) (fun k99 n99 x h99 hk99 hn99 he hS hxn => ⟨⟨by omega, by omega⟩, x, rfl, z_ext_trans hI.2.1 he, ?_⟩)
  rw [List.nil_append] at hS
  exact hS
theorem to_243 (hd : 8 ≤ d) (hd2 : d < 2048) (hq : zp_Ln 6 q) (hI : to_I h0 h q w) (hR : to_R h0 h q s 6) (hv4 : tx_S h v4 (zs_does q)) (hv5 : tx_S h v5 (q_str 256 ++ zs_dec (q 8))) (hk : k ≤ 533) (hn : n ≤ 1437) : q_K g m_L_told [] d 800 2100 h0 [] (to_Q h0 q) k n (243, [some (.ref w), none, none, none, some (.ref v4), some (.ref v5), some (.int (nI (q 7))), none], [.ref s], h) := by
  obtain ⟨c0, c1, c2, c3, c4, c5, c6, c7, c8⟩ := id hq
  have hnx : 400 ≤ q_nx h := Nat.le_trans hI.1 hI.2.1.1
  refine w_L_told_243 (by omega) (tx_cNew (by omega) hd2 hnx (by omega) (by omega) (fun k1 n1 h1 W1 => ⟨tx_W_sh W1, ?_⟩))
  refine tx_cS (m2 := 13) (by omega) hd2 W1 (tx_SC (a := 277) rfl (by decide)) (tx_asC (by decide)) (Nat.le_of_ble_eq_true rfl) (by omega) (by omega) (by omega) (fun k2 n2 h2 W2 => ⟨tx_W_sh W2, ?_⟩)
  refine tx_cI (by omega) hd2 W2 (by omega) (by omega) (by omega) (by omega) (fun k3 n3 h3 W3 => ⟨tx_W_sh W3, ?_⟩)
  refine tx_cS (m2 := 12) (by omega) hd2 W3 (tx_SC (a := 278) rfl (by decide)) (tx_asC (by decide)) (Nat.le_of_ble_eq_true rfl) (by omega) (by omega) (by omega) (fun k4 n4 h4 W4 => ⟨tx_W_sh W4, ?_⟩)
  refine tx_cS (m2 := 4) (by omega) hd2 W4 (tx_S_ext (tx_W_ext W4) hv5) (to_ha (by omega)) (to_hl _) (by omega) (by omega) (by omega) (fun k5 n5 h5 W5 => ⟨tx_W_sh W5, ?_⟩)
  refine tx_cS (m2 := 3) (by omega) hd2 W5 (tx_SC (a := 279) rfl (by decide)) (tx_asC (by decide)) (Nat.le_of_ble_eq_true rfl) (by omega) (by omega) (by omega) (fun k6 n6 h6 W6 => ⟨tx_W_sh W6, ?_⟩)
  refine tx_cT (by omega) hd2 W6 (by omega) (by omega) (by omega) (fun k99 n99 x h99 hk99 hn99 he hS hxn => ?_)
  have I99 := to_I_ext he hI
  have R99 := to_R_ext he hR
  have ht : tx_S h99 x (zs_test q 6) := by
    rw [show zs_test q 6 = q_str 277 ++ (zs_dec (q 7) ++ (q_str 278 ++ ((q_str 256 ++ zs_dec (q 8)) ++ q_str 279))) from rfl]
    simp only [List.nil_append, List.append_assoc] at hS ⊢
    exact hS
  obtain ⟨I98, R98⟩ := to_put (Or.inr (Nat.le_trans hI.2.1.1 hxn)) I99 R99 ht
  refine ⟨6, 7, rfl, to_ar hI.1 R99 (by decide), tx_S_or hS, ?_⟩
  exact to_260 hd hd2 hq I98 R98 (tx_S_pR R99.2.1 (tx_S_ext he hv4)) (by omega) (by omega)
theorem to_228 (hd : 8 ≤ d) (hd2 : d < 2048) (hq : zp_Ln 6 q) (hI : to_I h0 h q w) (hR : to_R h0 h q s 5) (hv4 : tx_S h v4 (zs_does q)) (hv5 : tx_S h v5 (q_str 256 ++ zs_dec (q 8))) (hk : k ≤ 443) (hn : n ≤ 1202) : q_K g m_L_told [] d 800 2100 h0 [] (to_Q h0 q) k n (228, [some (.ref w), none, none, none, some (.ref v4), some (.ref v5), some (.int (nI (q 7))), none], [.ref s], h) := by
  obtain ⟨c0, c1, c2, c3, c4, c5, c6, c7, c8⟩ := id hq
  have hnx : 400 ≤ q_nx h := Nat.le_trans hI.1 hI.2.1.1
  refine w_L_told_228 (by omega) (tx_cNew (by omega) hd2 hnx (by omega) (by omega) (fun k1 n1 h1 W1 => ⟨tx_W_sh W1, ?_⟩))
  refine tx_cS (m2 := 18) (by omega) hd2 W1 (tx_SC (a := 275) rfl (by decide)) (tx_asC (by decide)) (Nat.le_of_ble_eq_true rfl) (by omega) (by omega) (by omega) (fun k2 n2 h2 W2 => ⟨tx_W_sh W2, ?_⟩)
  refine tx_cS (m2 := 4) (by omega) hd2 W2 (tx_S_ext (tx_W_ext W2) hv5) (to_ha (by omega)) (to_hl _) (by omega) (by omega) (by omega) (fun k3 n3 h3 W3 => ⟨tx_W_sh W3, ?_⟩)
  refine tx_cS (m2 := 11) (by omega) hd2 W3 (tx_SC (a := 276) rfl (by decide)) (tx_asC (by decide)) (Nat.le_of_ble_eq_true rfl) (by omega) (by omega) (by omega) (fun k4 n4 h4 W4 => ⟨tx_W_sh W4, ?_⟩)
  refine tx_cI (by omega) hd2 W4 (by omega) (by omega) (by omega) (by omega) (fun k5 n5 h5 W5 => ⟨tx_W_sh W5, ?_⟩)
  refine tx_cT (by omega) hd2 W5 (by omega) (by omega) (by omega) (fun k99 n99 x h99 hk99 hn99 he hS hxn => ?_)
  have I99 := to_I_ext he hI
  have R99 := to_R_ext he hR
  have ht : tx_S h99 x (zs_test q 5) := by
    rw [show zs_test q 5 = q_str 275 ++ ((q_str 256 ++ zs_dec (q 8)) ++ (q_str 276 ++ zs_dec (q 7))) from rfl]
    simp only [List.nil_append, List.append_assoc] at hS ⊢
    exact hS
  obtain ⟨I98, R98⟩ := to_put (Or.inr (Nat.le_trans hI.2.1.1 hxn)) I99 R99 ht
  refine ⟨5, 7, rfl, to_ar hI.1 R99 (by decide), tx_S_or hS, ?_⟩
  exact to_243 hd hd2 hq I98 R98 (tx_S_pR R99.2.1 (tx_S_ext he hv4)) (tx_S_pR R99.2.1 (tx_S_ext he hv5)) (by omega) (by omega)
theorem to_215 (hd : 8 ≤ d) (hd2 : d < 2048) (hq : zp_Ln 6 q) (hI : to_I h0 h q w) (hR : to_R h0 h q s 4) (hv4 : tx_S h v4 (zs_does q)) (hv5 : tx_S h v5 (q_str 256 ++ zs_dec (q 8))) (hk : k ≤ 379) (hn : n ≤ 1032) : q_K g m_L_told [] d 800 2100 h0 [] (to_Q h0 q) k n (215, [some (.ref w), none, none, none, some (.ref v4), some (.ref v5), some (.int (nI (q 7))), none], [.ref s], h) := by
  obtain ⟨c0, c1, c2, c3, c4, c5, c6, c7, c8⟩ := id hq
  have hnx : 400 ≤ q_nx h := Nat.le_trans hI.1 hI.2.1.1
  refine w_L_told_215 (by omega) (tx_cNew (by omega) hd2 hnx (by omega) (by omega) (fun k1 n1 h1 W1 => ⟨tx_W_sh W1, ?_⟩))
  refine tx_cS (m2 := 20) (by omega) hd2 W1 (tx_SC (a := 274) rfl (by decide)) (tx_asC (by decide)) (Nat.le_of_ble_eq_true rfl) (by omega) (by omega) (by omega) (fun k2 n2 h2 W2 => ?_)
  refine ⟨by decide, tx_W_sh W2, ?_⟩
  rw [tx_md _ (by omega)]
  refine tx_cI (by omega) hd2 W2 (by omega) (by omega) (by omega) (by omega) (fun k3 n3 h3 W3 => ⟨tx_W_sh W3, ?_⟩)
  refine tx_cT (by omega) hd2 W3 (by omega) (by omega) (by omega) (fun k99 n99 x h99 hk99 hn99 he hS hxn => ?_)
  have I99 := to_I_ext he hI
  have R99 := to_R_ext he hR
  have ht : tx_S h99 x (zs_test q 4) := by
    rw [show zs_test q 4 = q_str 274 ++ zs_dec (q 7 % 3) from rfl]
    simp only [List.nil_append, List.append_assoc] at hS ⊢
    exact hS
  obtain ⟨I98, R98⟩ := to_put (Or.inr (Nat.le_trans hI.2.1.1 hxn)) I99 R99 ht
  refine ⟨4, 7, rfl, to_ar hI.1 R99 (by decide), tx_S_or hS, ?_⟩
  exact to_228 hd hd2 hq I98 R98 (tx_S_pR R99.2.1 (tx_S_ext he hv4)) (tx_S_pR R99.2.1 (tx_S_ext he hv5)) (by omega) (by omega)
theorem to_202 (hd : 8 ≤ d) (hd2 : d < 2048) (hq : zp_Ln 6 q) (hI : to_I h0 h q w) (hR : to_R h0 h q s 3) (hv1 : tx_S h v1 (q_str 256 ++ zs_dec (q 1))) (hv4 : tx_S h v4 (zs_does q)) (hv5 : tx_S h v5 (q_str 256 ++ zs_dec (q 8))) (hk : k ≤ 315) (hn : n ≤ 862) : q_K g m_L_told [] d 800 2100 h0 [] (to_Q h0 q) k n (202, [some (.ref w), some (.ref v1), none, none, some (.ref v4), some (.ref v5), some (.int (nI (q 7))), none], [.ref s], h) := by
  obtain ⟨c0, c1, c2, c3, c4, c5, c6, c7, c8⟩ := id hq
  have hnx : 400 ≤ q_nx h := Nat.le_trans hI.1 hI.2.1.1
  refine w_L_told_202 (by omega) (tx_cNew (by omega) hd2 hnx (by omega) (by omega) (fun k1 n1 h1 W1 => ⟨tx_W_sh W1, ?_⟩))
  refine tx_cS (m2 := 14) (by omega) hd2 W1 (tx_SC (a := 273) rfl (by decide)) (tx_asC (by decide)) (Nat.le_of_ble_eq_true rfl) (by omega) (by omega) (by omega) (fun k2 n2 h2 W2 => ⟨tx_W_sh W2, ?_⟩)
  refine tx_cS (m2 := 4) (by omega) hd2 W2 (tx_S_ext (tx_W_ext W2) hv5) (to_ha (by omega)) (to_hl _) (by omega) (by omega) (by omega) (fun k3 n3 h3 W3 => ⟨tx_W_sh W3, ?_⟩)
  refine tx_cS (m2 := 4) (by omega) hd2 W3 (tx_S_ext (tx_W_ext W3) hv1) (to_ha (by omega)) (to_hl _) (by omega) (by omega) (by omega) (fun k4 n4 h4 W4 => ⟨tx_W_sh W4, ?_⟩)
  refine tx_cT (by omega) hd2 W4 (by omega) (by omega) (by omega) (fun k99 n99 x h99 hk99 hn99 he hS hxn => ?_)
  have I99 := to_I_ext he hI
  have R99 := to_R_ext he hR
  have ht : tx_S h99 x (zs_test q 3) := by
    rw [show zs_test q 3 = q_str 273 ++ ((q_str 256 ++ zs_dec (q 8)) ++ (q_str 256 ++ zs_dec (q 1))) from rfl]
    simp only [List.nil_append, List.append_assoc] at hS ⊢
    exact hS
  obtain ⟨I98, R98⟩ := to_put (Or.inr (Nat.le_trans hI.2.1.1 hxn)) I99 R99 ht
  refine ⟨3, 7, rfl, to_ar hI.1 R99 (by decide), tx_S_or hS, ?_⟩
  exact to_215 hd hd2 hq I98 R98 (tx_S_pR R99.2.1 (tx_S_ext he hv4)) (tx_S_pR R99.2.1 (tx_S_ext he hv5)) (by omega) (by omega)
theorem to_191 (hd : 8 ≤ d) (hd2 : d < 2048) (hq : zp_Ln 6 q) (hI : to_I h0 h q w) (hR : to_R h0 h q s 2) (hv1 : tx_S h v1 (q_str 256 ++ zs_dec (q 1))) (hv4 : tx_S h v4 (zs_does q)) (hv5 : tx_S h v5 (q_str 256 ++ zs_dec (q 8))) (hk : k ≤ 269) (hn : n ≤ 737) : q_K g m_L_told [] d 800 2100 h0 [] (to_Q h0 q) k n (191, [some (.ref w), some (.ref v1), none, none, some (.ref v4), some (.ref v5), some (.int (nI (q 7))), none], [.ref s], h) := by
  obtain ⟨c0, c1, c2, c3, c4, c5, c6, c7, c8⟩ := id hq
  have hnx : 400 ≤ q_nx h := Nat.le_trans hI.1 hI.2.1.1
  refine w_L_told_191 (by omega) (tx_cNew (by omega) hd2 hnx (by omega) (by omega) (fun k1 n1 h1 W1 => ⟨tx_W_sh W1, ?_⟩))
  refine tx_cS (m2 := 9) (by omega) hd2 W1 (tx_SC (a := 272) rfl (by decide)) (tx_asC (by decide)) (Nat.le_of_ble_eq_true rfl) (by omega) (by omega) (by omega) (fun k2 n2 h2 W2 => ⟨tx_W_sh W2, ?_⟩)
  refine tx_cS (m2 := 4) (by omega) hd2 W2 (tx_S_ext (tx_W_ext W2) hv5) (to_ha (by omega)) (to_hl _) (by omega) (by omega) (by omega) (fun k3 n3 h3 W3 => ⟨tx_W_sh W3, ?_⟩)
  refine tx_cT (by omega) hd2 W3 (by omega) (by omega) (by omega) (fun k99 n99 x h99 hk99 hn99 he hS hxn => ?_)
  have I99 := to_I_ext he hI
  have R99 := to_R_ext he hR
  have ht : tx_S h99 x (zs_test q 2) := by
    rw [show zs_test q 2 = q_str 272 ++ (q_str 256 ++ zs_dec (q 8)) from rfl]
    simp only [List.nil_append, List.append_assoc] at hS ⊢
    exact hS
  obtain ⟨I98, R98⟩ := to_put (Or.inr (Nat.le_trans hI.2.1.1 hxn)) I99 R99 ht
  refine ⟨2, 7, rfl, to_ar hI.1 R99 (by decide), tx_S_or hS, ?_⟩
  exact to_202 hd hd2 hq I98 R98 (tx_S_pR R99.2.1 (tx_S_ext he hv1)) (tx_S_pR R99.2.1 (tx_S_ext he hv4)) (tx_S_pR R99.2.1 (tx_S_ext he hv5)) (by omega) (by omega)
theorem to_180 (hd : 8 ≤ d) (hd2 : d < 2048) (hq : zp_Ln 6 q) (hI : to_I h0 h q w) (hR : to_R h0 h q s 1) (hv1 : tx_S h v1 (q_str 256 ++ zs_dec (q 1))) (hv4 : tx_S h v4 (zs_does q)) (hv5 : tx_S h v5 (q_str 256 ++ zs_dec (q 8))) (hk : k ≤ 223) (hn : n ≤ 612) : q_K g m_L_told [] d 800 2100 h0 [] (to_Q h0 q) k n (180, [some (.ref w), some (.ref v1), none, none, some (.ref v4), some (.ref v5), some (.int (nI (q 7))), none], [.ref s], h) := by
  obtain ⟨c0, c1, c2, c3, c4, c5, c6, c7, c8⟩ := id hq
  have hnx : 400 ≤ q_nx h := Nat.le_trans hI.1 hI.2.1.1
  refine w_L_told_180 (by omega) (tx_cNew (by omega) hd2 hnx (by omega) (by omega) (fun k1 n1 h1 W1 => ⟨tx_W_sh W1, ?_⟩))
  refine tx_cS (m2 := 11) (by omega) hd2 W1 (tx_SC (a := 271) rfl (by decide)) (tx_asC (by decide)) (Nat.le_of_ble_eq_true rfl) (by omega) (by omega) (by omega) (fun k2 n2 h2 W2 => ⟨tx_W_sh W2, ?_⟩)
  refine tx_cI (by omega) hd2 W2 (by omega) (by omega) (by omega) (by omega) (fun k3 n3 h3 W3 => ⟨tx_W_sh W3, ?_⟩)
  refine tx_cT (by omega) hd2 W3 (by omega) (by omega) (by omega) (fun k99 n99 x h99 hk99 hn99 he hS hxn => ?_)
  have I99 := to_I_ext he hI
  have R99 := to_R_ext he hR
  have ht : tx_S h99 x (zs_test q 1) := by
    rw [show zs_test q 1 = q_str 271 ++ zs_dec (q 7) from rfl]
    simp only [List.nil_append, List.append_assoc] at hS ⊢
    exact hS
  obtain ⟨I98, R98⟩ := to_put (Or.inr (Nat.le_trans hI.2.1.1 hxn)) I99 R99 ht
  refine ⟨1, 7, rfl, to_ar hI.1 R99 (by decide), tx_S_or hS, ?_⟩
  exact to_191 hd hd2 hq I98 R98 (tx_S_pR R99.2.1 (tx_S_ext he hv1)) (tx_S_pR R99.2.1 (tx_S_ext he hv4)) (tx_S_pR R99.2.1 (tx_S_ext he hv5)) (by omega) (by omega)
theorem to_170 (hd : 8 ≤ d) (hd2 : d < 2048) (hq : zp_Ln 6 q) (hI : to_I h0 h q w) (hv1 : tx_S h v1 (q_str 256 ++ zs_dec (q 1))) (hv4 : tx_S h v4 (zs_does q)) (hv5 : tx_S h v5 (q_str 256 ++ zs_dec (q 8))) (hk : k ≤ 222) (hn : n ≤ 605) : q_K g m_L_told [] d 800 2100 h0 [] (to_Q h0 q) k n (170, [some (.ref w), some (.ref v1), none, none, some (.ref v4), some (.ref v5), none, none], [], h) := by
  obtain ⟨c0, c1, c2, c3, c4, c5, c6, c7, c8⟩ := id hq
  have hnx : 400 ≤ q_nx h := Nat.le_trans hI.1 hI.2.1.1
  have hsn : q_sh (q_new h (3, 8, 7)) (q_nx h) = (3, 8, 7) := z_sh_new _ _
  have en := z_ext_new h (3, 8, 7)
  have I99 := to_I_ext en hI
  have R99 : to_R h0 (q_new h (3, 8, 7)) q (q_nx h) 0 := ⟨⟨hI.2.1.1, Nat.lt_succ_self _⟩, hsn, fun j hj => absurd hj (Nat.not_lt_zero _)⟩
  obtain ⟨I98, R98⟩ := to_put (t := 257) (Or.inl (by decide)) I99 R99 (tx_SC (a := 257) rfl (by decide))
  refine w_L_told_170 (by omega) ⟨7, 9, rfl, to_ac hI (by decide), 7, rfl, by decide, ⟨by omega, by omega⟩, 0, 7, rfl, to_ar hI.1 R99 (by decide), Or.inr ⟨rfl, by decide⟩, ?_⟩
  rw [hI.2.2.2.2 7 (by decide)]
  exact to_180 hd hd2 hq I98 R98 (tx_S_pR R99.2.1 (tx_S_ext en hv1)) (tx_S_pR R99.2.1 (tx_S_ext en hv4)) (tx_S_pR R99.2.1 (tx_S_ext en hv5)) (by omega) (by omega)
theorem to_159 (hd : 8 ≤ d) (hd2 : d < 2048) (hq : zp_Ln 6 q) (hI : to_I h0 h q w) (hv1 : tx_S h v1 (q_str 256 ++ zs_dec (q 1))) (hv4 : tx_S h v4 (zs_does q)) (hk : k ≤ 194) (hn : n ≤ 525) : q_K g m_L_told [] d 800 2100 h0 [] (to_Q h0 q) k n (159, [some (.ref w), some (.ref v1), none, none, some (.ref v4), none, none, none], [], h) := by
  obtain ⟨c0, c1, c2, c3, c4, c5, c6, c7, c8⟩ := id hq
  have hnx : 400 ≤ q_nx h := Nat.le_trans hI.1 hI.2.1.1
  exact w_L_told_159 (by omega) (to_hkf (i := 8) (by omega) hd2 hI rfl (by decide) (by omega) (by omega) (by omega) (fun k1 n1 x h1 hk1 hn1 he hS => to_170 hd hd2 hq (to_I_ext he hI) (tx_S_ext he hv1) (tx_S_ext he hv4) hS (by omega) (by omega)))
theorem to_158 (hd : 8 ≤ d) (hd2 : d < 2048) (hq : zp_Ln 6 q) (hI : to_I h0 h q w) (hv1 : tx_S h v1 (q_str 256 ++ zs_dec (q 1))) (hv4 : tx_S h v4 (zs_does q)) (hk : k ≤ 194) (hn : n ≤ 525) : q_K g m_L_told [] d 800 2100 h0 [] (to_Q h0 q) k n (158, [some (.ref w), some (.ref v1), none, none, none, none, none, none], [.ref v4], h) :=
  w_L_told_158 (by omega) (to_159 hd hd2 hq hI hv1 hv4 hk hn)
theorem to_150 (hd : 8 ≤ d) (hd2 : d < 2048) (hq : zp_Ln 6 q) (hI : to_I h0 h q w) (hv1 : tx_S h v1 (q_str 256 ++ zs_dec (q 1))) (h0q : 4 ≤ q 0) (hk : k ≤ 102) (hn : n ≤ 285) : q_K g m_L_told [] d 800 2100 h0 [] (to_Q h0 q) k n (150, [some (.ref w), some (.ref v1), none, none, none, none, none, none], [], h) := by
  obtain ⟨c0, c1, c2, c3, c4, c5, c6, c7, c8⟩ := id hq
  have hnx : 400 ≤ q_nx h := Nat.le_trans hI.1 hI.2.1.1
  have e0 : q 0 = 4 := by omega
  refine w_L_told_150 (by omega) (tx_cNew (by omega) hd2 hnx (by omega) (by omega) (fun k1 n1 h1 W1 => ⟨tx_W_sh W1, ?_⟩))
  refine tx_cS (m2 := 4) (by omega) hd2 W1 (tx_SC (a := 270) rfl (by decide)) (tx_asC (by decide)) (Nat.le_of_ble_eq_true rfl) (by omega) (by omega) (by omega) (fun k2 n2 h2 W2 => ⟨tx_W_sh W2, ?_⟩)
  refine tx_cS (m2 := 4) (by omega) hd2 W2 (tx_S_ext (tx_W_ext W2) hv1) (to_ha (by omega)) (to_hl _) (by omega) (by omega) (by omega) (fun k3 n3 h3 W3 => ⟨tx_W_sh W3, ?_⟩)
  refine tx_cT (by omega) hd2 W3 (by omega) (by omega) (by omega) (fun k99 n99 x h99 hk99 hn99 he hS hxn => ?_)
  refine to_158 hd hd2 hq (to_I_ext he hI) (tx_S_ext he hv1) ?_ (by omega) (by omega)
  rw [to_d4 e0]
  simp only [List.nil_append, List.append_assoc] at hS ⊢
  exact hS
theorem to_126 (hd : 8 ≤ d) (hd2 : d < 2048) (hq : zp_Ln 6 q) (hI : to_I h0 h q w) (hv1 : tx_S h v1 (q_str 256 ++ zs_dec (q 1))) (hv2 : tx_S h v2 (q_str 256 ++ zs_dec (q 2))) (h0q : 3 ≤ q 0) (hk : k ≤ 102) (hn : n ≤ 285) : q_K g m_L_told [] d 800 2100 h0 [] (to_Q h0 q) k n (126, [some (.ref w), some (.ref v1), some (.ref v2), none, none, none, none, none], [], h) := by
  obtain ⟨c0, c1, c2, c3, c4, c5, c6, c7, c8⟩ := id hq
  have hnx : 400 ≤ q_nx h := Nat.le_trans hI.1 hI.2.1.1
  refine w_L_told_126 (by omega) ⟨0, 9, rfl, to_ac hI (by decide), ?_⟩
  rw [hI.2.2.2.2 0 (by decide)]
  refine ⟨fun hne => to_150 hd hd2 hq hI hv1 (Nat.lt_of_le_of_ne h0q (fun e => hne (by rw [← e]; rfl))) hk hn, fun he0 => ?_⟩
  have e0 : q 0 = 3 := (nI_eq (by omega) (by decide)).mp he0
  refine (tx_cNew (by omega) hd2 hnx (by omega) (by omega) (fun k1 n1 h1 W1 => ⟨tx_W_sh W1, ?_⟩))
  refine tx_cS (m2 := 6) (by omega) hd2 W1 (tx_SC (a := 268) rfl (by decide)) (tx_asC (by decide)) (Nat.le_of_ble_eq_true rfl) (by omega) (by omega) (by omega) (fun k2 n2 h2 W2 => ⟨tx_W_sh W2, ?_⟩)
  refine tx_cS (m2 := 4) (by omega) hd2 W2 (tx_S_ext (tx_W_ext W2) hv1) (to_ha (by omega)) (to_hl _) (by omega) (by omega) (by omega) (fun k3 n3 h3 W3 => ⟨tx_W_sh W3, ?_⟩)
  refine tx_cS (m2 := 3) (by omega) hd2 W3 (tx_SC (a := 269) rfl (by decide)) (tx_asC (by decide)) (Nat.le_of_ble_eq_true rfl) (by omega) (by omega) (by omega) (fun k4 n4 h4 W4 => ⟨tx_W_sh W4, ?_⟩)
  refine tx_cS (m2 := 4) (by omega) hd2 W4 (tx_S_ext (tx_W_ext W4) hv2) (to_ha (by omega)) (to_hl _) (by omega) (by omega) (by omega) (fun k5 n5 h5 W5 => ⟨tx_W_sh W5, ?_⟩)
  refine tx_cS (m2 := 6) (by omega) hd2 W5 (tx_SC (a := 265) rfl (by decide)) (tx_asC (by decide)) (Nat.le_of_ble_eq_true rfl) (by omega) (by omega) (by omega) (fun k6 n6 h6 W6 => ?_)
  have I6 := to_I_ext (tx_W_ext W6) hI
  refine ⟨3, 9, rfl, to_ac I6 (by decide), tx_W_sh W6, ?_⟩
  rw [I6.2.2.2.2 3 (by decide)]
  refine tx_cI (by omega) hd2 W6 (by omega) (by omega) (by omega) (by omega) (fun k7 n7 h7 W7 => ⟨tx_W_sh W7, ?_⟩)
  refine tx_cT (by omega) hd2 W7 (by omega) (by omega) (by omega) (fun k99 n99 x h99 hk99 hn99 he hS hxn => ?_)
  refine to_158 hd hd2 hq (to_I_ext he hI) (tx_S_ext he hv1) ?_ (by omega) (by omega)
  rw [to_d3 e0]
  simp only [List.nil_append, List.append_assoc] at hS ⊢
  exact hS
theorem to_106 (hd : 8 ≤ d) (hd2 : d < 2048) (hq : zp_Ln 6 q) (hI : to_I h0 h q w) (hv1 : tx_S h v1 (q_str 256 ++ zs_dec (q 1))) (hv2 : tx_S h v2 (q_str 256 ++ zs_dec (q 2))) (h0q : 2 ≤ q 0) (hk : k ≤ 102) (hn : n ≤ 285) : q_K g m_L_told [] d 800 2100 h0 [] (to_Q h0 q) k n (106, [some (.ref w), some (.ref v1), some (.ref v2), none, none, none, none, none], [], h) := by
  obtain ⟨c0, c1, c2, c3, c4, c5, c6, c7, c8⟩ := id hq
  have hnx : 400 ≤ q_nx h := Nat.le_trans hI.1 hI.2.1.1
  refine w_L_told_106 (by omega) ⟨0, 9, rfl, to_ac hI (by decide), ?_⟩
  rw [hI.2.2.2.2 0 (by decide)]
  refine ⟨fun hne => to_126 hd hd2 hq hI hv1 hv2 (Nat.lt_of_le_of_ne h0q (fun e => hne (by rw [← e]; rfl))) hk hn, fun he0 => ?_⟩
  have e0 : q 0 = 2 := (nI_eq (by omega) (by decide)).mp he0
  refine (tx_cNew (by omega) hd2 hnx (by omega) (by omega) (fun k1 n1 h1 W1 => ⟨tx_W_sh W1, ?_⟩))
  refine tx_cS (m2 := 5) (by omega) hd2 W1 (tx_SC (a := 267) rfl (by decide)) (tx_asC (by decide)) (Nat.le_of_ble_eq_true rfl) (by omega) (by omega) (by omega) (fun k2 n2 h2 W2 => ⟨tx_W_sh W2, ?_⟩)
  refine tx_cS (m2 := 4) (by omega) hd2 W2 (tx_S_ext (tx_W_ext W2) hv1) (to_ha (by omega)) (to_hl _) (by omega) (by omega) (by omega) (fun k3 n3 h3 W3 => ⟨tx_W_sh W3, ?_⟩)
  refine tx_cS (m2 := 6) (by omega) hd2 W3 (tx_SC (a := 265) rfl (by decide)) (tx_asC (by decide)) (Nat.le_of_ble_eq_true rfl) (by omega) (by omega) (by omega) (fun k4 n4 h4 W4 => ?_)
  have I4 := to_I_ext (tx_W_ext W4) hI
  refine ⟨3, 9, rfl, to_ac I4 (by decide), tx_W_sh W4, ?_⟩
  rw [I4.2.2.2.2 3 (by decide)]
  refine tx_cI (by omega) hd2 W4 (by omega) (by omega) (by omega) (by omega) (fun k5 n5 h5 W5 => ⟨tx_W_sh W5, ?_⟩)
  refine tx_cT (by omega) hd2 W5 (by omega) (by omega) (by omega) (fun k99 n99 x h99 hk99 hn99 he hS hxn => ?_)
  refine to_158 hd hd2 hq (to_I_ext he hI) (tx_S_ext he hv1) ?_ (by omega) (by omega)
  rw [to_d2 e0]
  simp only [List.nil_append, List.append_assoc] at hS ⊢
  exact hS
theorem to_82 (hd : 8 ≤ d) (hd2 : d < 2048) (hq : zp_Ln 6 q) (hI : to_I h0 h q w) (hv1 : tx_S h v1 (q_str 256 ++ zs_dec (q 1))) (hv2 : tx_S h v2 (q_str 256 ++ zs_dec (q 2))) (h0q : 1 ≤ q 0) (hk : k ≤ 102) (hn : n ≤ 285) : q_K g m_L_told [] d 800 2100 h0 [] (to_Q h0 q) k n (82, [some (.ref w), some (.ref v1), some (.ref v2), none, none, none, none, none], [], h) := by
  obtain ⟨c0, c1, c2, c3, c4, c5, c6, c7, c8⟩ := id hq
  have hnx : 400 ≤ q_nx h := Nat.le_trans hI.1 hI.2.1.1
  refine w_L_told_82 (by omega) ⟨0, 9, rfl, to_ac hI (by decide), ?_⟩
  rw [hI.2.2.2.2 0 (by decide)]
  refine ⟨fun hne => to_106 hd hd2 hq hI hv1 hv2 (Nat.lt_of_le_of_ne h0q (fun e => hne (by rw [← e]; rfl))) hk hn, fun he0 => ?_⟩
  have e0 : q 0 = 1 := (nI_eq (by omega) (by decide)).mp he0
  refine (tx_cNew (by omega) hd2 hnx (by omega) (by omega) (fun k1 n1 h1 W1 => ⟨tx_W_sh W1, ?_⟩))
  refine tx_cS (m2 := 3) (by omega) hd2 W1 (tx_SC (a := 264) rfl (by decide)) (tx_asC (by decide)) (Nat.le_of_ble_eq_true rfl) (by omega) (by omega) (by omega) (fun k2 n2 h2 W2 => ⟨tx_W_sh W2, ?_⟩)
  refine tx_cS (m2 := 4) (by omega) hd2 W2 (tx_S_ext (tx_W_ext W2) hv1) (to_ha (by omega)) (to_hl _) (by omega) (by omega) (by omega) (fun k3 n3 h3 W3 => ⟨tx_W_sh W3, ?_⟩)
  refine tx_cS (m2 := 6) (by omega) hd2 W3 (tx_SC (a := 265) rfl (by decide)) (tx_asC (by decide)) (Nat.le_of_ble_eq_true rfl) (by omega) (by omega) (by omega) (fun k4 n4 h4 W4 => ?_)
  have I4 := to_I_ext (tx_W_ext W4) hI
  refine ⟨3, 9, rfl, to_ac I4 (by decide), tx_W_sh W4, ?_⟩
  rw [I4.2.2.2.2 3 (by decide)]
  refine tx_cI (by omega) hd2 W4 (by omega) (by omega) (by omega) (by omega) (fun k5 n5 h5 W5 => ⟨tx_W_sh W5, ?_⟩)
  refine tx_cS (m2 := 3) (by omega) hd2 W5 (tx_SC (a := 266) rfl (by decide)) (tx_asC (by decide)) (Nat.le_of_ble_eq_true rfl) (by omega) (by omega) (by omega) (fun k6 n6 h6 W6 => ⟨tx_W_sh W6, ?_⟩)
  refine tx_cS (m2 := 4) (by omega) hd2 W6 (tx_S_ext (tx_W_ext W6) hv2) (to_ha (by omega)) (to_hl _) (by omega) (by omega) (by omega) (fun k7 n7 h7 W7 => ⟨tx_W_sh W7, ?_⟩)
  refine tx_cT (by omega) hd2 W7 (by omega) (by omega) (by omega) (fun k99 n99 x h99 hk99 hn99 he hS hxn => ?_)
  refine to_158 hd hd2 hq (to_I_ext he hI) (tx_S_ext he hv1) ?_ (by omega) (by omega)
  rw [to_d1 e0]
  simp only [List.nil_append, List.append_assoc] at hS ⊢
  exact hS
theorem to_58 (hd : 8 ≤ d) (hd2 : d < 2048) (hq : zp_Ln 6 q) (hI : to_I h0 h q w) (hv1 : tx_S h v1 (q_str 256 ++ zs_dec (q 1))) (hv2 : tx_S h v2 (q_str 256 ++ zs_dec (q 2))) (hv3 : tx_S h v3 (to_sum q)) (hk : k ≤ 102) (hn : n ≤ 285) : q_K g m_L_told [] d 800 2100 h0 [] (to_Q h0 q) k n (58, [some (.ref w), some (.ref v1), some (.ref v2), none, none, none, none, none], [.ref v3], h) := by
  obtain ⟨c0, c1, c2, c3, c4, c5, c6, c7, c8⟩ := id hq
  have hnx : 400 ≤ q_nx h := Nat.le_trans hI.1 hI.2.1.1
  obtain ⟨sl, sa⟩ := to_sl hq
  refine w_L_told_58 (by omega) ⟨0, 9, rfl, to_ac hI (by decide), ?_⟩
  rw [hI.2.2.2.2 0 (by decide)]
  refine ⟨fun hne => to_82 hd hd2 hq hI hv1 hv2 (Nat.pos_of_ne_zero (fun e => hne (by rw [e]; rfl))) hk hn, fun he0 => ?_⟩
  have e0 : q 0 = 0 := (nI_eq (b := 0) (by omega) (by decide)).mp he0
  refine (tx_cNew (by omega) hd2 hnx (by omega) (by omega) (fun k1 n1 h1 W1 => ⟨tx_W_sh W1, ?_⟩))
  refine tx_cS (m2 := 4) (by omega) hd2 W1 (tx_SC (a := 261) rfl (by decide)) (tx_asC (by decide)) (Nat.le_of_ble_eq_true rfl) (by omega) (by omega) (by omega) (fun k2 n2 h2 W2 => ⟨tx_W_sh W2, ?_⟩)
  refine tx_cS (m2 := 4) (by omega) hd2 W2 (tx_S_ext (tx_W_ext W2) hv1) (to_ha (by omega)) (to_hl _) (by omega) (by omega) (by omega) (fun k3 n3 h3 W3 => ⟨tx_W_sh W3, ?_⟩)
  refine tx_cS (m2 := 6) (by omega) hd2 W3 (tx_SC (a := 262) rfl (by decide)) (tx_asC (by decide)) (Nat.le_of_ble_eq_true rfl) (by omega) (by omega) (by omega) (fun k4 n4 h4 W4 => ⟨tx_W_sh W4, ?_⟩)
  refine tx_cS (m2 := 13) (by omega) hd2 W4 (tx_S_ext (tx_W_ext W4) hv3) sa sl (by omega) (by omega) (by omega) (fun k5 n5 h5 W5 => ⟨tx_W_sh W5, ?_⟩)
  refine tx_cS (m2 := 7) (by omega) hd2 W5 (tx_SC (a := 263) rfl (by decide)) (tx_asC (by decide)) (Nat.le_of_ble_eq_true rfl) (by omega) (by omega) (by omega) (fun k6 n6 h6 W6 => ?_)
  have I6 := to_I_ext (tx_W_ext W6) hI
  refine ⟨3, 9, rfl, to_ac I6 (by decide), tx_W_sh W6, ?_⟩
  rw [I6.2.2.2.2 3 (by decide)]
  refine tx_cI (by omega) hd2 W6 (by omega) (by omega) (by omega) (by omega) (fun k7 n7 h7 W7 => ⟨tx_W_sh W7, ?_⟩)
  refine tx_cT (by omega) hd2 W7 (by omega) (by omega) (by omega) (fun k99 n99 x h99 hk99 hn99 he hS hxn => ?_)
  refine to_158 hd hd2 hq (to_I_ext he hI) (tx_S_ext he hv1) ?_ (by omega) (by omega)
  rw [to_d0 e0]
  simp only [List.nil_append, List.append_assoc] at hS ⊢
  exact hS
theorem to_22 (hd : 8 ≤ d) (hd2 : d < 2048) (hq : zp_Ln 6 q) (hI : to_I h0 h q w) (hv1 : tx_S h v1 (q_str 256 ++ zs_dec (q 1))) (hv2 : tx_S h v2 (q_str 256 ++ zs_dec (q 2))) (hk : k ≤ 56) (hn : n ≤ 160) : q_K g m_L_told [] d 800 2100 h0 [] (to_Q h0 q) k n (22, [some (.ref w), some (.ref v1), some (.ref v2), none, none, none, none, none], [], h) := by
  obtain ⟨c0, c1, c2, c3, c4, c5, c6, c7, c8⟩ := id hq
  have hnx : 400 ≤ q_nx h := Nat.le_trans hI.1 hI.2.1.1
  refine w_L_told_22 (by omega) ⟨4, 9, rfl, to_ac hI (by decide), ?_⟩
  rw [hI.2.2.2.2 4 (by decide)]
  refine ⟨fun hne => ⟨4, 9, rfl, to_ac hI (by decide), ?_⟩, fun he0 => ?_⟩
  · rw [hI.2.2.2.2 4 (by decide)]
    refine ⟨fun hne1 => ?_, fun he1 => ?_⟩
    · have e4 : q 4 = 2 := by
        have a0 : q 4 ≠ 0 := fun e => hne (by rw [e]; rfl)
        have a1 : q 4 ≠ 1 := fun e => hne1 (by rw [e]; rfl)
        omega
      refine (tx_cNew (by omega) hd2 hnx (by omega) (by omega) (fun k1 n1 h1 W1 => ⟨tx_W_sh W1, ?_⟩))
      refine tx_cS (m2 := 6) (by omega) hd2 W1 (tx_SC (a := 259) rfl (by decide)) (tx_asC (by decide)) (Nat.le_of_ble_eq_true rfl) (by omega) (by omega) (by omega) (fun k2 n2 h2 W2 => ⟨tx_W_sh W2, ?_⟩)
      refine tx_cS (m2 := 4) (by omega) hd2 W2 (tx_S_ext (tx_W_ext W2) hv2) (to_ha (by omega)) (to_hl _) (by omega) (by omega) (by omega) (fun k3 n3 h3 W3 => ⟨tx_W_sh W3, ?_⟩)
      refine tx_cS (m2 := 1) (by omega) hd2 W3 (tx_SC (a := 260) rfl (by decide)) (tx_asC (by decide)) (Nat.le_of_ble_eq_true rfl) (by omega) (by omega) (by omega) (fun k4 n4 h4 W4 => ?_)
      have I4 := to_I_ext (tx_W_ext W4) hI
      refine ⟨5, 9, rfl, to_ac I4 (by decide), tx_W_sh W4, ?_⟩
      rw [I4.2.2.2.2 5 (by decide)]
      refine tx_cI (by omega) hd2 W4 (by omega) (by omega) (by omega) (by omega) (fun k5 n5 h5 W5 => ⟨tx_W_sh W5, ?_⟩)
      refine tx_cT (by omega) hd2 W5 (by omega) (by omega) (by omega) (fun k99 n99 x h99 hk99 hn99 he hS hxn => ?_)
      refine to_58 hd hd2 hq (to_I_ext he hI) (tx_S_ext he hv1) (tx_S_ext he hv2) ?_ (by omega) (by omega)
      rw [to_s2 e4]
      simp only [List.nil_append, List.append_assoc] at hS ⊢
      exact hS
    · have e4 : q 4 = 1 := (nI_eq (b := 1) (by omega) (by decide)).mp he1
      exact to_58 hd hd2 hq hI hv1 hv2 (by rw [to_s1 e4]; exact tx_SC rfl (by decide)) (by omega) (by omega)
  · have e4 : q 4 = 0 := (nI_eq (b := 0) (by omega) (by decide)).mp he0
    refine (tx_cNew (by omega) hd2 hnx (by omega) (by omega) (fun k1 n1 h1 W1 => ⟨tx_W_sh W1, ?_⟩))
    refine tx_cS (m2 := 0) (by omega) hd2 W1 (tx_SC (a := 257) rfl (by decide)) (tx_asC (by decide)) (Nat.le_of_ble_eq_true rfl) (by omega) (by omega) (by omega) (fun k2 n2 h2 W2 => ?_)
    have I2 := to_I_ext (tx_W_ext W2) hI
    refine ⟨5, 9, rfl, to_ac I2 (by decide), tx_W_sh W2, ?_⟩
    rw [I2.2.2.2.2 5 (by decide)]
    refine tx_cI (by omega) hd2 W2 (by omega) (by omega) (by omega) (by omega) (fun k3 n3 h3 W3 => ⟨tx_W_sh W3, ?_⟩)
    refine tx_cT (by omega) hd2 W3 (by omega) (by omega) (by omega) (fun k99 n99 x h99 hk99 hn99 he hS hxn => ?_)
    refine to_58 hd hd2 hq (to_I_ext he hI) (tx_S_ext he hv1) (tx_S_ext he hv2) ?_ (by omega) (by omega)
    rw [to_s0 e4]
    simp only [List.nil_append, List.append_assoc] at hS ⊢
    exact hS
theorem to_11 (hd : 8 ≤ d) (hd2 : d < 2048) (hq : zp_Ln 6 q) (hI : to_I h0 h q w) (hv1 : tx_S h v1 (q_str 256 ++ zs_dec (q 1))) (hk : k ≤ 28) (hn : n ≤ 80) : q_K g m_L_told [] d 800 2100 h0 [] (to_Q h0 q) k n (11, [some (.ref w), some (.ref v1), none, none, none, none, none, none], [], h) := by
  obtain ⟨c0, c1, c2, c3, c4, c5, c6, c7, c8⟩ := id hq
  have hnx : 400 ≤ q_nx h := Nat.le_trans hI.1 hI.2.1.1
  exact w_L_told_11 (by omega) (to_hkf (i := 2) (by omega) hd2 hI rfl (by decide) (by omega) (by omega) (by omega) (fun k1 n1 x h1 hk1 hn1 he hS => to_22 hd hd2 hq (to_I_ext he hI) (tx_S_ext he hv1) hS (by omega) (by omega)))
/-- a step told -/
theorem to_told (hd : 8 ≤ d) (hd2 : d < 2048) (hq : zp_Ln 6 q) (h4 : 400 ≤ q_nx h) (hw : 400 ≤ w ∧ w < q_nx h) (hs : q_sh h w = (1, 0, 9)) (hv : ∀ j, j < 9 → q_I h w j = nI (q j)) : q_Ct g m_L_told d 800 2100 [] [.ref w] h (to_Q h q) := by
  obtain ⟨c0, c1, c2, c3, c4, c5, c6, c7, c8⟩ := id hq
  have hI : to_I h h q w := ⟨h4, z_ext_refl _, hw, hs, hv⟩
  refine q_CtK ok_L_told (by omega) (Nat.le_of_ble_eq_true rfl) ?_ _ rfl rfl
  exact w_L_told_0 (by omega) (to_hkf (i := 1) (by omega) hd2 hI rfl (by decide) (by omega) (by omega) (by omega) (fun k1 n1 x h1 hk1 hn1 he hS => to_11 hd hd2 hq (to_I_ext he hI) hS (by omega) (by omega)))
end TOLD2
