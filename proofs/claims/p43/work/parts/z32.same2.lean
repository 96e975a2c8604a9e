/-! isSame answers 1 -/
section LASAME2
variable {g : q_G} {d H m hf ns oc G s k n b c x : Nat} {Q : Nat → Nat → Nat} {pn nu : m_Rr} {od : Nat → Option Nat} {T1 : Nat → m_Rr} {K1 : Nat → Nat → Option Nat} {h h1 h' : q_H} {ν : Nat → Nat} {mc ms : Nat} {h0 : q_H} {mv : List Nat}
/-- the law's side of what is looked at -/
def la_Sd (H : Nat) (s c : Nat) (ν : Nat → Nat) (h : q_H) : Prop := (400 ≤ s ∧ q_sh h s = (0, 12, 0)) ∧ (q_R h s 2 = some c ∧ 400 ≤ c ∧ q_sh h c = (3, 6, H)) ∧ (∀ x y, x < 128 → y < 128 → ¬ q_I h 459 x = 0 → ¬ q_I h 459 y = 0 → ν x = ν y → x = y) ∧ (∀ i, i < H → la_Hk ν c h i) ∧ ∀ b, b < 128 → ¬ q_I h 459 b = 0 → la_Bl ν h b
/-- a hook that holds nothing -/
theorem la_sN {i : Nat} (hd : 20 ≤ d) (hd2 : d < 2048) (hS : lc_S H m hf G h) (hX : la_Sd H s c ν h) (hi : i < H) (hn0 : q_I h 470 i = -1) : ∀ (z u k n : Nat), u + z = H → k + z * 2 ≤ mc → n + z * 12 ≤ ms →
    (∀ k2 n2, k2 ≤ k + z * 2 → n2 ≤ n + z * 12 → q_K g m_X14_isSame [] d mc ms h0 mv la_Q1 k2 n2 (88, [some (.ref s), some (.ref 400), some (.ref x), some (.int (nI (i + 1))), none, none], [], h)) →
    q_K g m_X14_isSame [] d mc ms h0 mv la_Q1 k n (111, [some (.ref s), some (.ref 400), some (.ref x), some (.int (nI i)), some (.null), some (.int (nI u))], [], h) := by
  have H6 := hS.2.1.1.2
  obtain ⟨x1, ⟨x2, x3, x4⟩, x5, x6, x7⟩ := hX
  intro z
  induction z with
  | zero =>
    intro u k n hu hk hn hK
    refine w_X14_isSame_N_111 (by omega) ⟨x1, c, x2, H, ⟨x3, x4⟩, fun _ => ?_, fun hq => absurd (nI_le (by omega) (by omega)) hq⟩
    rw [nI_1]
    exact hK k n (by omega) (by omega)
  | succ z ih =>
    intro u k n hu hk hn hK
    have huH : u < H := by omega
    have hsm := lk_same (g := g) (d := d - 1) (by omega) hS hi huH
    rw [decide_eq_false (fun hh => hh.1 hn0)] at hsm
    refine w_X14_isSame_N_111 (by omega) ⟨x1, c, x2, H, ⟨x3, x4⟩, fun hq => absurd hq (nI_ge huH (by omega)), fun _ => ⟨la_O hS, la_c1 (by omega) hd2 hsm (by omega) (by omega) ⟨fun _ => ?_, fun hq => absurd rfl hq⟩⟩⟩
    rw [nI_1]
    exact ih (u + 1) _ _ (by omega) (by omega) (by omega) (fun k3 n3 c3 c4 => hK k3 n3 (by omega) (by omega))
/-- a hook that holds a bale -/
theorem la_s111 {i : Nat} (hd : 20 ≤ d) (hd2 : d < 2048) (hS : lc_S H m hf G h) (hX : la_Sd H s c ν h) (hi : i < H) (hb : q_I h 470 i = nI b) (b8 : b < 128) (b0 : ¬ q_I h 459 b = 0) : ∀ (z u k n : Nat), u + z = H → k + z * 2 + 19 ≤ mc → n + z * 12 + 114 ≤ ms →
    (∀ k2 n2, k2 ≤ k + z * 2 + 19 → n2 ≤ n + z * 12 + 114 → q_K g m_X14_isSame [] d mc ms h0 mv la_Q1 k2 n2 (88, [some (.ref s), some (.ref 400), some (.ref x), some (.int (nI (i + 1))), none, none], [], h)) →
    q_K g m_X14_isSame [] d mc ms h0 mv la_Q1 k n (111, [some (.ref s), some (.ref 400), some (.ref x), some (.int (nI i)), some (.ref (ν b)), some (.int (nI u))], [], h) := by
  have H6 := hS.2.1.1.2
  have hO := la_O hS
  have d1 : 1 ≤ d := by omega
  obtain ⟨x1, ⟨x2, x3, x4⟩, x5, x6, x7⟩ := hX
  have hBl := x7 b b8 b0
  obtain ⟨y1, ⟨f0, f1, f2, f3⟩, a, kk, a1, a2, a3, a4, a5⟩ := id hBl
  have hne : ¬ q_I h 470 i = -1 := by rw [hb]; exact m_nI_m1 (by omega)
  intro z
  induction z with
  | zero =>
    intro u k n hu hk hn hK
    have hsz := lk_sizeOf (g := g) (d := d - 1) (by omega) hS hi hb b8
    have hpl := lk_placeOf (g := g) (d := d - 1) (by omega) hS hi hb b8
    have hrc := lk_ropesOf (g := g) (d := d - 1) (by omega) hS hi hb b8
    have hag := lk_ageOf (g := g) (d := d - 1) (by omega) hS hi hb b8
    have hly := lk_isInLoft (g := g) (d := d - 1) (by omega) hS hi hb b8
    refine w_X14_isSame_111 (by omega) ⟨x1, c, x2, H, ⟨x3, x4⟩, fun _ => ⟨hO, la_c1 d1 hd2 hpl (by omega) (by omega) ⟨y1, fun hq => absurd f2.symm hq, fun _ => ⟨hO, la_c1 d1 hd2 hsz (by omega) (by omega) ⟨y1, fun hq => absurd f0.symm hq, fun _ => ⟨hO, la_c1 d1 hd2 hrc (by omega) (by omega) ⟨y1, a, a1, kk, a2, fun hq => absurd a4 hq, fun _ => ⟨hO, la_c1 d1 hd2 hag (by omega) (by omega) ⟨y1, fun hq => absurd f1.symm hq, fun _ => ⟨hO, la_c1 d1 hd2 hly (by omega) (by omega) ⟨y1, fun _ => ?_, fun hq => absurd f3.symm hq⟩⟩⟩⟩⟩⟩⟩⟩⟩⟩, fun hq => absurd (nI_le (by omega) (by omega)) hq⟩
    exact la_s174 hd hd2 hS hi hb b8 hBl 3 0 _ _ (by omega) (by omega) (by omega) (fun k3 n3 c3 c4 => hK k3 n3 (by omega) (by omega))
  | succ z ih =>
    intro u k n hu hk hn hK
    have huH : u < H := by omega
    have hsm := lk_same (g := g) (d := d - 1) (by omega) hS hi huH
    have h16 : q_s16 H := by show H < 65536; omega
    have nx : ∀ k2 n2, k2 ≤ k + 2 → n2 ≤ n + 12 → q_K g m_X14_isSame [] d mc ms h0 mv la_Q1 k2 n2 (111, [some (.ref s), some (.ref 400), some (.ref x), some (.int (nI i)), some (.ref (ν b)), some (.int (nI u + 1))], [], h) := fun k2 n2 c1 c2 => by
      rw [nI_1]
      exact ih (u + 1) k2 n2 (by omega) (by omega) (by omega) (fun k3 n3 c3 c4 => hK k3 n3 (by omega) (by omega))
    refine w_X14_isSame_111 (by omega) ⟨x1, c, x2, H, ⟨x3, x4⟩, fun hq => absurd hq (nI_ge huH (by omega)), fun _ => ⟨hO, la_c1 d1 hd2 hsm (by omega) (by omega) ⟨x1, c, x2, u, H, rfl, ⟨x3, x4, huH, h16⟩, ?_⟩⟩⟩
    rcases x6 u huH with ⟨e1, e2⟩ | ⟨b', e1, e2, e3, e4⟩
    · rw [decide_eq_false (fun hh => by rw [hh.2] at hne; exact hne e1)]
      exact ⟨fun b10 hb10 => (by rw [e2] at hb10; cases hb10), fun _ => ⟨y1.1, fun _ => nx _ _ (by omega) (by omega), fun hq => absurd rfl hq⟩⟩
    · refine ⟨fun b10 hb10 => ?_, fun hnn => (by rw [e4] at hnn; cases hnn)⟩
      obtain rfl : ν b' = b10 := by rw [e4] at hb10; exact Option.some.inj hb10
      refine ⟨y1.1, (x7 b' e1 e2).1.1, fun hq => ?_, fun hq => ?_⟩
      · rw [decide_eq_false (fun hh => hq (by
          have := (nI_eq (show b < 2147483648 by omega) (show b' < 2147483648 by omega)).mp (hb.symm.trans (hh.2.trans e3))
          rw [this]))]
        exact ⟨fun _ => nx _ _ (by omega) (by omega), fun hq2 => absurd rfl hq2⟩
      · have : b = b' := x5 b b' b8 e1 b0 e2 hq
        rw [decide_eq_true (show ¬ q_I h 470 i = -1 ∧ q_I h 470 i = q_I h 470 u from ⟨hne, by rw [hb, e3, this]⟩)]
        exact ⟨fun _ => nx _ _ (by omega) (by omega), fun hq2 => absurd rfl hq2⟩
/-- hooks, then the mean -/
theorem la_s88 (hd : 20 ≤ d) (hd2 : d < 2048) (hS : lc_S H m hf G h) (hX : la_Sd H s c ν h) (hE : la_E h x) : ∀ (z i k n : Nat), i + z = H → k + z * 32 ≤ mc → n + z * 192 ≤ ms →
    q_K g m_X14_isSame [] d mc ms h0 mv la_Q1 k n (88, [some (.ref s), some (.ref 400), some (.ref x), some (.int (nI i)), none, none], [], h) := by
  have H6 := hS.2.1.1.2
  have hO := la_O hS
  have d1 : 1 ≤ d := by omega
  obtain ⟨x1, ⟨x2, x3, x4⟩, x5, x6, x7⟩ := id hX
  have h16 : q_s16 H := by show H < 65536; omega
  intro z
  induction z with
  | zero =>
    intro i k n hi hk hn
    obtain rfl : i = H := by omega
    obtain ⟨l0, U, N, u1, hAr, hBal, hsum, hlen, ⟨g1, g2, g3⟩, g4, g5⟩ := hE
    obtain ⟨hL, st, sh, sw, sp, ss, sr, sa, sd, hR⟩ := id hS.2.2.2.1
    have hnb := lc_nbI hR
    have hnb8 := lc_nb_128 hR
    have eN : lc_nb hL (q_I h 459) = N := (nI_eq (by omega) (by omega)).mp (hnb.symm.trans g4)
    have hul := lc_ul64 hR
    obtain ⟨w1, w2, w3⟩ := lc_u1 hR
    have hf32 := hS.2.1.2.1
    have eu : m_tw (m_w (q_I h 461)) hL = u1 := (nI_eq (by omega) (by omega)).mp (w1.symm.trans g1)
    have hmn := lk_mean (g := g) (d := d - 1) (by omega) hS hR g1 g2
    rw [eN, ← g3] at hmn
    have hU : U ≤ 96 := by omega
    have harr : 400 ≤ x ∧ q_sh h x = (3, 6, N) := ⟨z_4 hAr.1.1, by rw [← hlen]; exact hAr.2.1⟩
    have fin : ∀ kk nn (y : UInt64), kk ≤ mc → nn ≤ ms → y = q_mean U N → q_K g m_X14_isSame [] d mc ms h0 mv la_Q1 kk nn (212, [none, none, none, none, none, none], [.double y, .double (q_mean U N)], h) := fun kk nn y hkk hnn hy => by
      rw [hy]
      refine k_o_dcmp okB_X14_isSame rfl ?_
      rw [q_dc hU (by omega)]
      exact w_X14_isSame_213 (by omega) ⟨fun hc => absurd rfl hc, fun _ => ⟨rfl, ⟨hkk, hnn⟩, 1, rfl, rfl⟩⟩
    refine w_X14_isSame_88 (by omega) ⟨x1, c, x2, i, ⟨x3, x4⟩, fun _ => ⟨hO, la_cD1 d1 hd2 hmn (by omega) (by omega) ⟨N, harr, fun hq => ?_, fun hq => ?_⟩⟩, fun hq => absurd (nI_le (Nat.le_refl _) (by omega)) hq⟩
    · have hN0 : N ≠ 0 := fun e => hq (by rw [e]; rfl)
      have hus := z_used (g := g) (d := d - 1) (by omega) (by omega) hAr hBal
      rw [hsum] at hus
      exact la_c1 d1 hd2 hus (by omega) (by omega) ⟨N, harr, q_dv (by omega) (by omega) hN0, fin _ _ _ (by omega) (by omega) (by unfold q_mean; rw [if_neg hN0])⟩
    · have hN0 : N = 0 := (q_nI0 (by omega)).mp hq
      exact fin _ _ _ (by omega) (by omega) (by unfold q_mean; rw [if_pos hN0])
  | succ z ih =>
    intro i k n hi hk hn
    have hiH : i < H := by omega
    have hho := lk_holds (g := g) (d := d - 1) (by omega) hS hiH
    refine w_X14_isSame_88 (by omega) ⟨x1, c, x2, H, ⟨x3, x4⟩, fun hq => absurd hq (nI_ge hiH (by omega)), fun _ => ⟨x1, c, x2, i, H, rfl, ⟨x3, x4, hiH, h16⟩, ?_⟩⟩
    rcases x6 i hiH with ⟨e1, e2⟩ | ⟨b, e1, e2, e3, e4⟩
    · rw [e1] at hho
      refine ⟨fun b10 hb10 => (by rw [e2] at hb10; cases hb10), fun _ => ⟨hO, la_c1 d1 hd2 hho (by omega) (by omega) ⟨fun _ => ?_, fun hq => absurd rfl hq⟩⟩⟩
      exact la_sN hd hd2 hS hX hiH e1 H 0 _ _ (by omega) (by omega) (by omega) (fun k3 n3 c3 c4 => ih (i + 1) k3 n3 (by omega) (by omega) (by omega))
    · rw [decide_eq_true (show ¬ q_I h 470 i = -1 by rw [e3]; exact m_nI_m1 (by omega))] at hho
      refine ⟨fun b10 hb10 => ?_, fun hnn => (by rw [e4] at hnn; cases hnn)⟩
      obtain rfl : ν b = b10 := by rw [e4] at hb10; exact Option.some.inj hb10
      refine ⟨hO, la_c1 d1 hd2 hho (by omega) (by omega) ⟨fun _ => ?_, fun hq => absurd rfl hq⟩⟩
      exact la_s111 hd hd2 hS hX hiH e3 e1 e2 H 0 _ _ (by omega) (by omega) (by omega) (fun k3 n3 c3 c4 => ih (i + 1) k3 n3 (by omega) (by omega) (by omega))
theorem lk_longest (hd : 3 ≤ d) (hS : lc_S H m hf G h) {y0 : Int32} (e : f_X12_longestGap (q_I h 465) (q_I h 466) = some y0) : q_Ct g m_X12_longestGap d 0 0 [] [.ref 400] h (fun o h' => ∃ y, o = .inl (some (.int y)) ∧ y = y0 ∧ h' = h) := lk_of (lq_longestGap hd hS.1.1 hS.1.2 e)
set_option maxHeartbeats 1000000 in
theorem la_same (hd : 40 ≤ d) (hd2 : d < 2048) (hT : la_St H m hf ns oc Q pn nu od T1 K1) (hD : la_D H m hf ns Q pn nu od T1 K1 G h s) : q_Ct g m_X14_isSame d 500 35000 [] [.ref s, .ref 400] h la_Q1 := by
  have H6 := hT.1.2
  have hns12 := hT.2.2.2.1.2
  have d1 : 1 ≤ d := by omega
  obtain ⟨s1, s2, s3⟩ := la_D_Sim hD
  refine q_CtK ok_X14_isSame (by omega) (Nat.le_of_ble_eq_true rfl) ?_ _ rfl rfl
  refine w_X14_isSame_0 d1 ⟨⟨z_4 s1, s3⟩, la_D_all (by omega) hd2 hD (by omega) (by omega) (fun k1 n1 b4 h1 hk1 hn1 e1 E1 => ?_)⟩
  have hD1 := la_D_ext e1 hD
  have hS1 := la_D_S hT hD1
  have hO1 := la_O hS1
  have q4 : q_I h1 402 4 = nI ns := by rw [(la_D_Pl hD1).1]; exact hT.2.2.2.1.1
  have hst := lk_steps (g := g) (d := d - 1) (by omega) hS1
  rw [q4] at hst
  obtain ⟨-, -, t3⟩ := la_D_Sim hD1
  have hs1 : 400 ≤ s ∧ q_sh h1 s = (0, 12, 0) := ⟨z_4 s1, t3⟩
  obtain ⟨c, c1, c2⟩ := la_D_hook hD1
  obtain ⟨r, r1, r2⟩ := la_D_rows hD1
  obtain ⟨⟨n3, n7, n8, n9⟩, -⟩ := la_D_num hD1
  obtain ⟨a, l, a1, a2, a3, a4⟩ := la_D_half hD1
  obtain ⟨a', l', a1', a2', a3', a4', a5'⟩ := la_D_loft hD1
  have hu1 := z_used (g := g) (d := d - 1) (by omega) (by omega) a2 a3
  rw [a4] at hu1
  have hu2 := z_used (g := g) (d := d - 1) (by omega) (by omega) a2' a3'
  rw [a4'] at hu2
  obtain ⟨y0, y1, y2⟩ := la_D_gap (g := g) (mc := 500) (ms := 35000) (k := k1) (n := n1) (by omega) hd2 hD1
  refine ⟨hO1, la_c1 d1 hd2 (lk_hooks (by omega) hS1) (by omega) (by omega) ⟨hs1, c, c1, H, c2, fun hq => absurd rfl hq, fun _ => ⟨hO1, la_c1 d1 hd2 hst (by omega) (by omega) ⟨hs1, r, r1, ns, r2, fun hq => absurd rfl hq, fun _ => ⟨hO1, la_c1 d1 hd2 (lk_placesOfHalf (by omega) hS1) (by omega) (by omega) ⟨hs1, fun hq => absurd n3.symm hq, fun _ => ⟨hO1, la_c1 d1 hd2 (lk_stepsGoneBy (by omega) hS1) (by omega) (by omega) ⟨hs1, fun hq => absurd n7.symm hq, fun _ => ⟨hO1, la_c1 d1 hd2 (lk_stepsRefused (by omega) hS1) (by omega) (by omega) ⟨hs1, fun hq => absurd n8.symm hq, fun _ => ⟨hO1, la_c1 d1 hd2 (lk_workingHalf (by omega) hS1) (by omega) (by omega) ⟨hs1, fun hq => absurd n9.symm hq, fun _ => ?_⟩⟩⟩⟩⟩⟩⟩⟩⟩⟩⟩⟩
  refine ⟨hO1, la_c1 d1 hd2 (lk_usedPlaces (by omega) hS1) (by omega) (by omega) ⟨hs1, a, a1, la_c1 d1 hd2 hu1 (by omega) (by omega) ⟨fun hq => absurd rfl hq, fun _ => ⟨hO1, la_c1 d1 hd2 (lk_usedInLoft (by omega) hS1) (by omega) (by omega) ⟨hs1, a', a1', la_c1 d1 hd2 hu2 (by omega) (by omega) ⟨fun hq => absurd rfl hq, fun _ => ⟨hO1, la_c1 d1 hd2 (lk_longest (by omega) hS1 y1) (by omega) (by omega) ⟨hs1, ?_⟩⟩⟩⟩⟩⟩⟩⟩
  refine y2 (by omega) (by omega) (fun k2 n2 h2 hk2 hn2 e2 => ⟨fun hq => absurd rfl hq, fun _ => ?_⟩)
  have hD2 := la_D_ext e2 hD1
  have hS2 := la_D_S hT hD2
  have hO2 := la_O hS2
  have E2 := la_E_ext hD1.1.1.1 e2 E1
  obtain ⟨-, -, t3⟩ := la_D_Sim hD2
  have hs2 : 400 ≤ s ∧ q_sh h2 s = (0, 12, 0) := ⟨z_4 s1, t3⟩
  obtain ⟨l0, U, N, u1, hAr, hBal, hsum, hlen, -, g4, g5⟩ := id E2
  have hba := lk_bales (g := g) (d := d - 1) (by omega) hS2
  rw [g4] at hba
  obtain ⟨a', l', a1', a2', a3', a4', a5'⟩ := la_D_loft hD2
  have hbl := lk_balesInLoft (g := g) (d := d - 1) (by omega) hS2
  rw [a5'] at hbl
  obtain ⟨hL, st, sh, sw, sp, ss, sr, sa, sd, hR⟩ := id hS2.2.2.2.1
  refine ⟨hO2, la_c1 d1 hd2 hba (by omega) (by omega) ⟨N, ⟨z_4 hAr.1.1, by rw [← hlen]; exact hAr.2.1⟩, fun hq => absurd rfl hq, fun _ => ⟨hO2, la_c1 d1 hd2 hbl (by omega) (by omega) ⟨hs2, a', a1', l'.length, ⟨z_4 a2'.1.1, a2'.2.1⟩, fun hq => absurd rfl hq, fun _ => ⟨hO2, la_cl1 d1 hd2 (lk_useless (by omega) hS2 hR) (by omega) (by omega) (fun h3 e3 => ?_)⟩⟩⟩⟩⟩
  have hD3 := la_D_lk e3 hD2
  have E3 := la_E_lk e3 E2
  obtain ⟨-, -, t3⟩ := la_D_Sim hD3
  have hs3 : 400 ≤ s ∧ q_sh h3 s = (0, 12, 0) := ⟨z_4 s1, t3⟩
  refine ⟨hs3, la_simUseless (d2 := d - 1) (by omega) (by omega) (by omega) (q_lcle (by omega) hd2) hD3.1.2.2.2.1 hD3.1.2.2.2.2 (by omega) (by omega) (fun k4 n4 y h4 hk4 hn4 hy e4 => ?_)⟩
  obtain ⟨hL', st', sh', sw', sp', ss', sr', sa', sd', hR', hy⟩ := hy
  have r3 := e3.2.2.2.2.2
  have hR' : la_m H m hf hL' h3 st' sh' sw' sp' ss' sr' sa' sd' := hR'
  have eN := lw_nbE hR hR' (r3 457 rfl) (r3 465 rfl)
  have ey : nI (lc_nb hL (q_I h2 459) - (lc_rch H (q_I h2 463) (q_I h2 464) (q_I h2 470)).length) = y := by
    rw [hy, eN, r3 463 rfl, r3 464 rfl, r3 470 rfl]
  have hD4 := la_D_ext e4 hD3
  have hS4 := la_D_S hT hD4
  have hO4 := la_O hS4
  have E4 := la_E_ext hD3.1.1.1 e4 E3
  obtain ⟨-, -, t3⟩ := la_D_Sim hD4
  have hs4 : 400 ≤ s ∧ q_sh h4 s = (0, 12, 0) := ⟨z_4 s1, t3⟩
  obtain ⟨-, n10, n11, n12⟩ := la_D_num hD4
  refine ⟨fun hq => absurd ey hq, fun _ => ⟨hO4, la_c1 d1 hd2 (lk_copyings (by omega) hS4) (by omega) (by omega) ⟨hs4, fun hq => absurd n10.symm hq, fun _ => ⟨hO4, la_c1 d1 hd2 (lk_balesPromoted (by omega) hS4) (by omega) (by omega) ⟨hs4, fun hq => absurd n11.symm hq, fun _ => ⟨hO4, la_c1 d1 hd2 (lk_balesGone (by omega) hS4) (by omega) (by omega) ⟨hs4, fun _ => ?_, fun hq => absurd n12.symm hq⟩⟩⟩⟩⟩⟩⟩
  obtain ⟨ν, c, x1, x2, x3, x4⟩ := la_D_same hD4
  exact la_s88 (by omega) hd2 hS4 ⟨hs4, x1, x2, x3, x4⟩ E4 H 0 _ _ (by omega) (by omega) (by omega)
end LASAME2
