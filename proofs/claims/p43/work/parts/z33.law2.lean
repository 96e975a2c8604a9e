/-! THE LAW answers 1 -/
abbrev la_l41 (s : Nat) (v4 v5 v6 v7 : Int32) : List (Option Value) := [some (.ref 52), none, some (.ref s), some (.ref 400), some (.int v4), some (.int v5), some (.int v6), some (.int v7), none, none, none, none, none, none, none, none, none, none, none, none, none, none, none, none]
section LALAW2
variable {xt : List ExceptionTableEntry} {g : q_G} {mc ms : Nat} {mv : List Nat} {Qp : q_Po} {H m hf ns oc G s k n : Nat} {Q : Nat → Nat → Nat} {pn nu : m_Rr} {od : Nat → Option Nat} {T1 : Nat → m_Rr} {K1 : Nat → Nat → Option Nat} {h h' : q_H} {v4 v5 v6 : Int32}
theorem la_55 (hm1 : ∀ x ∈ [471, 472], x ∈ mv) (hT : la_St H m hf ns oc Q pn nu od T1 K1) (hD : la_D H m hf ns Q pn nu od T1 K1 G h s) (hG : G < 2 ^ 27) {v7 x : Int32} (hk : k + 1000 ≤ mc) (hn : n + 125000 ≤ ms)
    (hK : ∀ h', la_D H m hf ns Q pn nu od T1 K1 (G + 18) h' s → la_K xt g mc ms mv Qp (k + 1000) (n + 125000) (41, la_l41 s v4 v5 v6 (v7 + 1), [], h')) : la_K xt g mc ms mv Qp k n (55, la_l41 s v4 v5 v6 v7, [.int x, .ref s, .ref 400], h) := by
  obtain ⟨s1, s2, s3⟩ := la_D_Sim hD
  refine k_callH (M2 := m_L_act) (hh := la_hh) (As := [.ref 400, .ref s, .int x]) (rest := []) okB_L_lw rfl rfl cw_L_act cs_L_act (by decide) (la_act (d := 1000) (by decide) (by decide) hT hD hG) (by decide) (show 59 + 64 * 1000 ≤ q_lc 2048 by decide) hk hn (Nat.le_of_ble_eq_true rfl) hm1 (lw_nm (fun a ha => ?_)).1 (fun _ hb => by cases hb) rfl (fun v h' hq => ?_) (fun E h' hq => ?_)
  · have ha : @Eq Nat a 52 ∨ @Eq Nat a s ∨ @Eq Nat a 400 := by simpa using ha
    omega
  · obtain ⟨y, e1, e2, e3⟩ := hq
    cases e1
    subst e2
    exact w_L_lw_56 (by decide) ⟨fun _ => hK h' e3, fun hq => absurd hq (by decide)⟩
  · obtain ⟨y, e1, e2, e3⟩ := hq
    cases e1
/-- three doings -/
theorem la_41 (hm1 : ∀ x ∈ [471, 472], x ∈ mv) (hT : la_St H m hf ns oc Q pn nu od T1 K1) : ∀ (z j k n G : Nat) (h : q_H), j + z = 3 → la_D H m hf ns Q pn nu od T1 K1 G h s → G + 18 * z < 2 ^ 27 → k + z * 1000 + 150 ≤ mc → n + z * 125000 + 900 ≤ ms →
    (∀ h' k2 n2 v7, la_D H m hf ns Q pn nu od T1 K1 (G + 18 * z) h' s → lc_Dg h' v7 → k2 ≤ k + z * 1000 + 150 → n2 ≤ n + z * 125000 + 900 → la_K xt g mc ms mv Qp k2 n2 (71, la_l71 s v4 v5 v6 v7 0, [], h')) → la_K xt g mc ms mv Qp k n (41, la_l41 s v4 v5 v6 (nI j), [], h) := by
  intro z
  induction z with
  | zero =>
    intro j k n G h hj hD hG hk hn hK
    obtain rfl : j = 3 := by omega
    have hS := la_D_S hT hD
    have q4 : q_I h 402 4 = nI ns := by rw [(la_D_Pl hD).1]; exact hT.2.2.2.1.1
    refine w_L_lw_41 (by decide) ⟨fun _ => ⟨la_O hS, q_cL_of _ (lk_digest (d := 1000) (by decide) hS q4) (by decide) (show 59 + 64 * 1000 ≤ q_lc 2048 by decide) (by omega) (by omega) trivial (fun y h1 hp => ?_)⟩, fun hq => absurd (show (3 : Int32) ≤ nI 3 by decide) hq⟩
    obtain ⟨hp1, e1⟩ := hp
    refine lw_p (P := fun x => x = 1) (la_sound (d := 1000) (by decide) (by decide) (lc_S_lk e1 hS) (by omega)) (by omega) (by omega) trivial (fun x h5 hx e5 => ?_)
    subst hx
    exact ⟨fun _ => hK h5 _ _ y (la_D_lk (la_lk_t e1 e5) hD) (lc_Dg_lk (la_lk_t e1 e5) hp1) (by omega) (by omega), fun hq => absurd hq (by decide)⟩
  | succ z ih =>
    intro j k n G h hj hD hG hk hn hK
    refine w_L_lw_41 (by decide) ⟨fun hq => absurd hq (nI_ge (b := 3) (show j < 3 by omega) (by decide)), fun _ => ?_⟩
    refine la_55 hm1 hT hD (by omega) (by omega) (by omega) (fun h' hD' => ?_)
    rw [nI_1]
    exact ih (j + 1) _ _ (G + 18) h' (by omega) hD' (by omega) (by omega) (by omega) (fun h2 k3 n3 v7 a1 a2 a3 a4 => hK h2 k3 n3 v7 (by rw [show G + 18 * (z + 1) = G + 18 + 18 * z by omega]; exact a1) a2 (by omega) (by omega))
/-- what is seen of the state between doings -/
theorem la_D_Vw (hT : la_St H m hf ns oc Q pn nu od T1 K1) (hD : la_D H m hf ns Q pn nu od T1 K1 G h s) : ∃ nb, la_Vw H m hf G (q_I h 470) (q_I h 459) (lc_rp (q_I h 463) (q_I h 464)) nb h := by
  have hS := la_D_S hT hD
  obtain ⟨hL, st, sh, sw, sp, ss, sr, sa, sd, hR⟩ := id hS.2.2.2.1
  exact ⟨_, hS, ⟨hL, st, sh, sw, sp, ss, sr, sa, sd, hR, rfl⟩, rfl, rfl, rfl⟩
/-- after work: every third time more is done -/
theorem la_FX_of (hm1 : ∀ x ∈ [471, 472], x ∈ mv) (hm2 : ∀ x ∈ [487, 488], x ∈ mv) (hT : la_St H m hf ns oc Q pn nu od T1 K1) (hD : la_D H m hf ns Q pn nu od T1 K1 G h s) (hG : G + 3 < 2 ^ 27) (hk : k + 825 ≤ mc) (hn : n + 75150 ≤ ms)
    (hK : ∀ h' k2 n2, la_D H m hf ns Q pn nu od T1 K1 (G + 3) h' s → k2 ≤ k + 825 → n2 ≤ n + 75150 → la_K xt g mc ms mv Qp k2 n2 (24, la_l24 s (nI H) (v5 + 1), [], h')) : la_FX xt g mc ms mv Qp s (nI H) v5 k n h := by
  have H6 := hT.1.2
  have h16 : q_s16 H := by show H < 65536; omega
  refine ⟨by decide, fun _ => ⟨H, rfl, h16, ⟨by omega, by omega⟩, H, rfl, h16, ⟨by omega, by omega⟩, H, rfl, h16, ⟨by omega, by omega⟩, ?_⟩, fun _ => hK h k n (la_D_mono (by omega) hD) (by omega) (by omega)⟩
  obtain ⟨w1, w2⟩ := la_W3_0 hD
  refine la_302 hT H 0 _ _ _ (by omega) w1 w2 (by omega) (by omega) (fun h2 k2 n2 a1 a2 a3 a4 => ?_)
  refine la_302e hm1 hm2 hT (by omega) a1 a2 (by omega) (by omega) (fun h3 k3 n3 b1 b2 b3 b4 => ?_)
  refine la_385 hT b1 b2 H 0 k3 n3 (by omega) (by omega) (by omega) (fun k4 n4 c1 c2 => ?_)
  exact la_385e hm1 hT b1 (by omega) b2 (by omega) (by omega) (fun h5 k5 n5 d1 d2 d3 => hK h5 k5 n5 d1 (by omega) (by omega))
/-- one time -/
theorem la_24 (hg : g.2.length < 2147483648) (hm1 : ∀ x ∈ [471, 472], x ∈ mv) (hm2 : ∀ x ∈ [487, 488], x ∈ mv) (hT : la_St H m hf ns oc Q pn nu od T1 K1) (hD : la_D H m hf ns Q pn nu od T1 K1 G h s) (hG : G + 100 < 2 ^ 26) {T : Nat} (hT10 : T < 10) (hk : k + 11100 ≤ mc) (hn : n + 601000 ≤ ms)
    (hK : ∀ h' k2 n2, la_D H m hf ns Q pn nu od T1 K1 (G + 100) h' s → k2 ≤ k + 11100 → n2 ≤ n + 601000 → la_K xt g mc ms mv Qp k2 n2 (24, la_l24 s (nI H) (nI (T + 1)), [], h')) : la_K xt g mc ms mv Qp k n (24, la_l24 s (nI H) (nI T), [], h) := by
  have H6 := hT.1.2
  have hz : H * 991 ≤ 6 * 991 := Nat.mul_le_mul_right _ H6
  have hz2 : H * 5946 ≤ 6 * 5946 := Nat.mul_le_mul_right _ H6
  refine w_L_lw_24 (by decide) ⟨fun hq => absurd hq (nI_ge (b := 10) hT10 (by decide)), fun _ => ?_⟩
  have e2T : nI T + (2 : Int32) = nI (T + 2) := nI_add T 2
  rw [e2T]
  refine q_cI_of (fun _ h' => h' = h) (q_Ct_mono (tx_cell (d := 1000) (j := T + 2) (by decide) (by decide) hg (by omega)) (fun o h' hq => ?_)) (by decide) (show 59 + 64 * 1000 ≤ q_lc 2048 by decide) (by omega) (by omega) trivial (fun y h' hp => ?_)
  · exact hq
  rw [hp]
  refine la_41 hm1 hT 3 0 _ _ G h (by omega) hD (by omega) (by omega) (by omega) (fun h1 k1 n1 v7 hD1 hDg hk1 hn1 => ?_)
  obtain ⟨nb, hV⟩ := la_D_Vw hT hD1
  refine la_71 H6 H 0 k1 n1 h1 (by omega) hV (by omega) (by omega) (fun h2 k2 n2 e2 hk2 hn2 => ?_)
  have hD2 := la_D_lk e2 hD1
  obtain ⟨Y0, hX⟩ := la_D_Y hD2
  obtain ⟨g0, p0, q0, t1, t2, t3, t4, t5, t6, t7⟩ := la_D_Ct hD2
  obtain ⟨⟨H0, -⟩, ⟨hf32, hm64⟩, ⟨mp, hP⟩, ⟨q4, hns12⟩, ⟨q5, hoc⟩, hTl⟩ := id hT
  obtain ⟨mp', pd, po, pq, pr, ps, pt, pe, pc, hPn⟩ := lc_Pn H6 hP q4 hns12 q5 hoc hTl
  refine la_71e hm2 hT hD2 (by omega) hPn hX (lc_Dg_lk e2 hDg) t2 (by omega) (by omega) (by omega) (fun h3 k3 n3 v11 v13 st e3 hk3 hn3 st1 st9 hU hZ => ?_)
  have hD3 := la_D_lk e3 hD2
  rcases Nat.eq_zero_or_pos ns with hns | hpos
  · refine la_202z hT hD3 (by omega) hns st1 st9 (by omega) (by omega) (fun h4 k4 n4 hD4 hk4 hn4 => ?_)
    refine la_FX_of hm1 hm2 hT hD4 (by omega) (by omega) (by omega) (fun h5 k5 n5 hD5 hk5 hn5 => ?_)
    rw [nI_1]
    exact hK h5 k5 n5 (la_D_mono (by omega) hD5) (by omega) (by omega)
  · refine la_202 hm1 hT (G := G + 18 * 3) (by omega) hPn hpos (by omega) (hU hpos) (hZ hpos) st9 st 0 0 k3 n3 h3 Y0 (by omega) hD3 rfl (la_RB_lk e3 hX) (Nat.le_refl _) (by omega) (by omega) (fun h4 k4 n4 hD4 hk4 hn4 => ?_)
    refine la_FX_of hm1 hm2 hT hD4 (by omega) (by omega) (by omega) (fun h5 k5 n5 hD5 hk5 hn5 => ?_)
    rw [nI_1]
    exact hK h5 k5 n5 (la_D_mono (by omega) hD5) (by omega) (by omega)
/-- ten times, and then all is as by hand -/
theorem la_loop (hg : g.2.length < 2147483648) (hm1 : ∀ x ∈ [471, 472], x ∈ mv) (hm2 : ∀ x ∈ [487, 488], x ∈ mv) (hT : la_St H m hf ns oc Q pn nu od T1 K1) (hQ : ∀ h', Qp (.inl (some (.int 1))) h') : ∀ (z T k n G : Nat) (h : q_H), T + z = 10 → la_D H m hf ns Q pn nu od T1 K1 G h s → G + z * 100 < 2 ^ 26 → k + z * 11100 + 500 ≤ mc → n + z * 601000 + 35000 ≤ ms → la_K xt g mc ms mv Qp k n (24, la_l24 s (nI H) (nI T), [], h) := by
  intro z
  induction z with
  | zero =>
    intro T k n G h hT10 hD hG hk hn
    obtain rfl : T = 10 := by omega
    obtain ⟨s1, s2, s3⟩ := la_D_Sim hD
    refine w_L_lw_24 (by decide) ⟨fun _ => ⟨⟨z_4 s1, s3⟩, q_cI_of (fun x _ => x = 1) (la_same (d := 1000) (by decide) (by decide) hT hD) (by decide) (show 59 + 64 * 1000 ≤ q_lc 2048 by decide) (by omega) (by omega) trivial (fun x h' hx => ?_)⟩, fun hq => absurd (show (10 : Int32) ≤ nI 10 by decide) hq⟩
    subst hx
    exact ⟨rfl, ⟨by omega, by omega⟩, hQ h'⟩
  | succ z ih =>
    intro T k n G h hT10 hD hG hk hn
    exact la_24 hg hm1 hm2 hT hD (by omega) (by omega) (by omega) (by omega) (fun h' k2 n2 hD' a1 a2 => ih (T + 1) k2 n2 (G + 100) h' (by omega) hD' (by omega) (by omega) (by omega))
theorem la_19 (hg : g.2.length < 2147483648) (hm1 : ∀ x ∈ [471, 472], x ∈ mv) (hm2 : ∀ x ∈ [487, 488], x ∈ mv) (hQ : ∀ h', Qp (.inl (some (.int 1))) h') (hR : la_R 0 h s) (hk : k + 112000 ≤ mc) (hn : n + 6050000 ≤ ms) : la_K xt g mc ms mv Qp k n (19, la_l3 s, [], h) := by
  obtain ⟨c1, c2, H, m, hf, ns, oc, mp, Q, hH, hP, hb, q4, q5, hTl, hrows, hRB, hCn, hN, hA⟩ := hR
  have hT : la_St H m hf ns oc Q (q_I h 402) (q_I h 405) (q_E h 404) (q_tR (q_I h) 406) (q_tR (q_E h) 406) := ⟨hH, hb, ⟨mp, hP⟩, q4, q5, hTl⟩
  have hD : la_D H m hf ns Q (q_I h 402) (q_I h 405) (q_E h 404) (q_tR (q_I h) 406) (q_tR (q_E h) 406) 0 h s := ⟨⟨⟨c1, c2⟩, ⟨rfl, rfl, rfl, rfl, rfl⟩, hrows, hRB, hN⟩, hA⟩
  have hS := la_D_S hT hD
  refine w_L_lw_19 (by decide) ⟨la_O hS, lw_c (lk_hooks (d := 1000) (by decide) hS) (by omega) (by omega) ?_⟩
  exact la_loop hg hm1 hm2 hT hQ 10 0 _ _ 0 h (by omega) hD (by omega) (by omega) (by omega)
/-- the law from its entry on -/
theorem la_law (hg : g.2.length < 2147483648) (hmv : ∀ x ∈ q_mvC, x ∈ mv) (hm1 : ∀ x ∈ [471, 472], x ∈ mv) (hm2 : ∀ x ∈ [487, 488], x ∈ mv) (hmc : 130000 ≤ mc) (hms : 6200000 ≤ ms) (hQ : ∀ h', Qp (.inl (some (.int 1))) h') : la_K xt g mc ms mv Qp 0 0 (0, la_l0, [], q_h00) :=
  la_law0 hg hmv (by omega) (by omega) (fun h' s k' n' a1 a2 hR => la_19 hg hm1 hm2 hQ hR (by omega) (by omega))
end LALAW2
