/-! ACT: follow, drop -/
section LAFOL
variable {g : q_G} {d mc ms H m hf ns oc G : Nat} {Q : Nat → Nat → Nat} {pn nu : m_Rr} {od : Nat → Option Nat} {T1 : Nat → m_Rr} {K1 : Nat → Nat → Option Nat} {h h0 h' : q_H} {s k n : Nat}
theorem la_X_e {h h' : q_H} (e : ∀ a, a < 492 → q_I h' a = q_I h a) : la_X (q_I h') = la_X (q_I h) := by
  show (q_I h' 457, q_I h' 459, q_I h' 460, q_I h' 461, q_I h' 462, q_I h' 463, q_I h' 464, q_I h' 465, q_I h' 466, q_I h' 467, q_I h' 468, q_I h' 469, q_I h' 470, q_I h' 471, q_I h' 472, q_I h' 490, q_I h' 491) = _
  rw [e 457 (by decide), e 459 (by decide), e 460 (by decide), e 461 (by decide), e 462 (by decide), e 463 (by decide), e 464 (by decide), e 465 (by decide), e 466 (by decide), e 467 (by decide), e 468 (by decide), e 469 (by decide), e 470 (by decide), e 471 (by decide), e 472 (by decide), e 490 (by decide), e 491 (by decide)]
theorem la_aFollow (hd : 30 ≤ d) (hd2 : d < 2048) (hT : la_St H m hf ns oc Q pn nu od T1 K1) (hD : la_D H m hf ns Q pn nu od T1 K1 G h s) {i t r : Nat} (hi : i < H) (ht : t < H) (hk : k + 104 ≤ mc) (hn : n + 12500 ≤ ms) :
    q_cI g m_X14_follow [] d mc ms [.ref s, .int (nI i), .int (nI t), .int (nI r)] h k n True (fun k' n' y h4 => q_K g m_L_act (tableOf la_hh) d mc ms h0 [471, 472] (la_Qa H m hf ns Q pn nu od T1 K1 G s) k' n' (124, [none, some (.ref s), none, some (.int (nI i)), none, none, some (.int y), none, none], [.int (nI r), .int (nI t), .int (nI i), .ref 400], h4)) := by
  obtain ⟨hD0, hA⟩ := hD
  obtain ⟨⟨c1, c2⟩, pl, rows, hRB, hN⟩ := id hD0
  obtain ⟨⟨H0, H6⟩, ⟨hf32, hm64⟩, ⟨mp, hP⟩, -⟩ := id hT
  obtain ⟨hL, Y, ν, hl, ll, hkL, hR, hB⟩ := id hRB
  have hR : la_m H m hf hL h _ _ _ _ _ _ _ _ := hR
  have hB : z_B h s ν H m hf hL pn (q_I h 457) (q_I h 459) (q_I h 460) (q_I h 461) (q_I h 462) (q_I h 463) (q_I h 464) (q_I h 470) hl ll hkL := hB
  obtain ⟨o1, o2, o3, c, o4, o5, o6⟩ := z_OK_s hB.1
  have hlen : hkL.length = H := hB.2.1.2.2.2.2.2.1.1
  obtain ⟨p1, p2, p3, p4, p5, p6, p7⟩ := hP
  refine q_cI_of _ (z_followC (d := d - 1) (i := i) (f := t) (r := nI r) (by omega) (by omega) hB.1.1 hB.1.2.1 hB.1.2.2.2.1 (by omega) (by omega)) (by omega) (q_lcle (by omega) hd2) (by omega) (by omega) trivial (fun y h4 hM => ?_)
  obtain ⟨ok, hk', sh', hkL', y1, y2, y3, y5, y8, y9⟩ := z_B_follow hR hB o4 hi ht (nI r) hM
  have f := z_fr_follow hB.1 hM
  have N4 : z_Cn h4 s G := z_Cn_s hN (congrFun (z_I_follow hM) s)
  have eR : ∀ a, a < 492 → q_I h4 a = q_I h a := fun a ha => (z_I_fr c1 f ha).1
  have hX : z_RB H m hf pn h4 s (q_I h 457, q_I h 459, q_I h 460, q_I h 461, q_I h 462, q_I h 463, q_I h 464, q_I h 465, q_I h 466, q_I h 467, q_I h 468, q_I h 469, hk', q_I h 471, q_I h 472, q_I h 490, q_I h 491) := ⟨hL, (Y.1, Y.2.1, Y.2.2.1, Y.2.2.2.1, Y.2.2.2.2.1, sh', Y.2.2.2.2.2.2.1, Y.2.2.2.2.2.2.2.1, Y.2.2.2.2.2.2.2.2.1, Y.2.2.2.2.2.2.2.2.2.1, Y.2.2.2.2.2.2.2.2.2.2.1, Y.2.2.2.2.2.2.2.2.2.2.2), ν, hl, ll, hkL', y3, y8⟩
  rw [← eR 457 (by decide), ← eR 459 (by decide), ← eR 460 (by decide), ← eR 461 (by decide), ← eR 462 (by decide), ← eR 463 (by decide), ← eR 464 (by decide), ← eR 465 (by decide), ← eR 466 (by decide), ← eR 467 (by decide), ← eR 468 (by decide), ← eR 469 (by decide), ← eR 471 (by decide), ← eR 472 (by decide), ← eR 490 (by decide), ← eR 491 (by decide)] at hX
  have hD4 := la_D0_fr hD0 f hX N4
  have hD5 : la_D H m hf ns Q pn nu od T1 K1 G (q_jI h4 [(470, hk')]) s := ⟨la_D0_j rfl rfl hD4, by
    show lc_Ag (q_I h4 457) (q_I h4 459) (q_I h4 462)
    rw [eR 457 (by decide), eR 459 (by decide), eR 462 (by decide)]
    exact hA⟩
  have hC4 := hD4.1
  have hSim : 400 ≤ s ∧ q_sh h4 s = (0, 12, 0) := ⟨z_4 o2, (z_OK_s y8.1).1⟩
  have hcx : ∃ b, ok = true → b < 128 ∧ hk' i = nI b := by
    cases ok with
    | true =>
      obtain ⟨b, b8, hb, -⟩ := y5 rfl
      exact ⟨b, fun _ => ⟨b8, hb⟩⟩
    | false => exact ⟨0, fun h => by cases h⟩
  obtain ⟨b, hcc⟩ := hcx
  have eM : f_X12_follow pn (q_I h 460) (q_I h 463) (q_I h 464) (q_I h 470) (nI i) (nI t) (nI r) = some ((if ok = true then .inl (q_I h 460 b) else .inr "java/lang/IllegalStateException"), hk') := by
    unfold f_X12_follow
    rw [lc_chk H6 p6 hi, Option.bind_some]
    show ((f_X12_checkHook pn (nI t)).bind _) = _
    rw [lc_chk H6 p6 ht, Option.bind_some]
    show ((f_X2_followRope _ _ _ (nI i) (nI t) (nI r)).bind _) = _
    rw [y1, Option.bind_some]
    cases ok with
    | true =>
      obtain ⟨b8, hb⟩ := hcc rfl
      dsimp only
      rw [if_pos (show ¬ q_bz true = 0 by decide), m_held (by omega), Option.bind_some, hb, m_place b8, Option.bind_some]
      rfl
    | false =>
      rw [if_neg (show ¬ ¬ q_bz false = 0 from fun hh => hh rfl)]
      rfl
  rw [← pl.1, ← eR 402 (by decide), ← eR 460 (by decide), ← eR 463 (by decide), ← eR 464 (by decide), ← eR 470 (by decide)] at eM
  refine k_callV (M2 := m_X12_follow) (b := 400) (As := [.int (nI i), .int (nI t), .int (nI r)]) (rest := []) okB_L_act ok_X12_follow rfl (Or.inl rfl) cv_X12_follow (Nat.le_refl _) (hC4.1.2 400 (by decide)).1 (show vwCl[10]? = some _ from rfl) rfl (lq_follow (d := d - 1) (by omega) hC4.1 hC4.2 eM) (by omega) (q_lcle (by omega) hd2) (by omega) (by omega) (Nat.le_of_ble_eq_true rfl) (fun x hx => absurd hx List.not_mem_nil) (fun _ _ _ => List.not_mem_nil) (fun _ _ => List.not_mem_nil) rfl (fun v h5 hq => ?_) (fun E h5 hq => ?_)
  · obtain ⟨q1, rfl⟩ := hq
    cases ok with
    | false => cases q1
    | true =>
      cases q1
      obtain ⟨b8, hb⟩ := hcc rfl
      have y9 : y = 1 := y9
      subst y9
      obtain ⟨x1, x2, x3, c', x4, x5, x6⟩ := z_OK_s y8.1
      have hlen' : hkL'.length = H := y8.2.1.2.2.2.2.2.1.1
      rcases y8.2.1.2.2.2.2.2.1.2 i hi with ⟨w1, -⟩ | ⟨b', b8', b0, w1, w2⟩
      · rw [hb] at w1; exact absurd w1 (m_nI_m1 (by omega))
      · obtain rfl : b = b' := (nI_eq (by omega) (by omega)).mp (hb.symm.trans w1)
        have hbm := z_YR_mem y8.2.1 y3.2.2.1 y3.2.2.2.1.2.1 b8 b0
        obtain ⟨⟨v1, v2⟩, v3⟩ := (y8.1.2.1 _ hbm).1
        have hpl : q_I h4 (ν b) 2 = q_I h 460 b := (y8.2.1.2.2.2.1 b b8 b0).2.2.1
        refine w_L_act_125 (by omega) ⟨fun hc => absurd hc (by decide), fun _ => ⟨⟨z_4 x2, x1⟩, c', x4, i, hkL'.length, rfl, ⟨z_4 x6.1.1, x6.2.1, by omega, x6.2.2.1⟩, ν b, x6.2.2.2 i _ w2, ⟨z_4 v1, v3⟩, fun hc => absurd ?_ hc, fun _ => ⟨fun hc => absurd hc (by decide), fun _ => ⟨rfl, ⟨by omega, by omega⟩, 1, rfl, rfl, hD5⟩⟩⟩⟩
        rw [eR 460 (by decide)]
        exact ((congrFun (q_ws_hi v1 rfl) 2).trans hpl).symm
  · obtain ⟨q1, rfl⟩ := hq
    cases ok with
    | true => cases q1
    | false =>
      cases q1
      have y9 : y = 0 := y9
      subst y9
      exact la_catch 2 (by omega) (by decide) (by decide) (by decide) ⟨rfl, trivial⟩ (by omega) (by omega) ⟨1, rfl, rfl, hD5⟩
/-- dropped by hand; then the class drops -/
theorem la_aDrop (hd : 30 ≤ d) (hd2 : d < 2048) (hT : la_St H m hf ns oc Q pn nu od T1 K1) (hD : la_D H m hf ns Q pn nu od T1 K1 G h s) {i : Nat} (hi : i < H) (hk : k + 140 ≤ mc) (hn : n + 16500 ≤ ms) :
    ∃ c, q_R h s 2 = some c ∧ (400 ≤ c ∧ q_sh h c = (3, 6, H) ∧ i < H ∧ q_s16 H) ∧ ∀ v6, ((∃ b, q_R h c i = some b ∧ v6 = 1) ∨ (q_R h c i = none ∧ v6 = 0)) → q_K g m_L_act (tableOf la_hh) d mc ms h0 [471, 472] (la_Qa H m hf ns Q pn nu od T1 K1 G s) k n (157, [none, some (.ref s), none, none, none, none, some (.int v6), none, none], [.int (nI i), .ref 400], q_pR h c i none) := by
  obtain ⟨hD0, hA⟩ := hD
  obtain ⟨⟨c1, c2⟩, pl, rows, hRB, hN⟩ := id hD0
  obtain ⟨⟨H0, H6⟩, ⟨hf32, hm64⟩, ⟨mp, hP⟩, -⟩ := id hT
  obtain ⟨hL, Y, ν, hl, ll, hkL, hR, hB⟩ := id hRB
  have hR : la_m H m hf hL h _ _ _ _ _ _ _ _ := hR
  have hB : z_B h s ν H m hf hL pn (q_I h 457) (q_I h 459) (q_I h 460) (q_I h 461) (q_I h 462) (q_I h 463) (q_I h 464) (q_I h 470) hl ll hkL := hB
  obtain ⟨o1, o2, o3, c, o4, o5, o6⟩ := z_OK_s hB.1
  have hlen : hkL.length = H := hB.2.1.2.2.2.2.2.1.1
  obtain ⟨p1, p2, p3, p4, p5, p6, p7⟩ := hP
  refine ⟨c, o4, ⟨z_4 o6.1.1, by rw [← hlen]; exact o5, hi, by show H < 65536; omega⟩, fun v6 hv => ?_⟩
  have ho : hkL[i]? = some hkL[i] := List.getElem?_eq_getElem (by omega)
  have hRi := o6.2.2.2 i _ ho
  have hM : (v6, q_pR h c i none) = z_drop h s hkL[i] i := by
    unfold z_drop
    have hha : z_ha h s = c := by unfold z_ha; rw [o4]; rfl
    rw [hha]
    refine Prod.ext ?_ rfl
    rcases hv with ⟨b, e1, e2⟩ | ⟨e1, e2⟩
    · rw [← hRi, e1, e2]
    · rw [← hRi, e1, e2]
  generalize hh4 : q_pR h c i none = h4 at hM ⊢
  obtain ⟨ok, hk', sh', hkL', y1, y2, y3, y8, y9⟩ := z_B_drop hR hB o4 hi ho hM
  have f := z_fr_drop hB.1 hM
  have N4 : z_Cn h4 s G := z_Cn_s hN (by rw [← hh4]; rfl)
  have eR : ∀ a, a < 492 → q_I h4 a = q_I h a := fun a ha => (z_I_fr c1 f ha).1
  have hX : z_RB H m hf pn h4 s (q_I h 457, q_I h 459, q_I h 460, q_I h 461, q_I h 462, q_I h 463, q_I h 464, q_I h 465, q_I h 466, q_I h 467, q_I h 468, q_I h 469, hk', q_I h 471, q_I h 472, q_I h 490, q_I h 491) := ⟨hL, (Y.1, Y.2.1, Y.2.2.1, Y.2.2.2.1, Y.2.2.2.2.1, sh', Y.2.2.2.2.2.2.1, Y.2.2.2.2.2.2.2.1, Y.2.2.2.2.2.2.2.2.1, Y.2.2.2.2.2.2.2.2.2.1, Y.2.2.2.2.2.2.2.2.2.2.1, Y.2.2.2.2.2.2.2.2.2.2.2), ν, hl, ll, hkL', y3, y8⟩
  have hX0 := hX
  rw [← eR 457 (by decide), ← eR 459 (by decide), ← eR 460 (by decide), ← eR 461 (by decide), ← eR 462 (by decide), ← eR 463 (by decide), ← eR 464 (by decide), ← eR 465 (by decide), ← eR 466 (by decide), ← eR 467 (by decide), ← eR 468 (by decide), ← eR 469 (by decide), ← eR 471 (by decide), ← eR 472 (by decide), ← eR 490 (by decide), ← eR 491 (by decide)] at hX
  have hD4 := la_D0_fr hD0 f hX N4
  have hC4 := hD4.1
  have hSim : 400 ≤ s ∧ q_sh h4 s = (0, 12, 0) := ⟨z_4 o2, (z_OK_s y8.1).1⟩
  obtain ⟨u, li', nr', nd', u1, u2⟩ := lc_useless y3 (q_I h 467) (q_I h 468) (q_I h 469)
  have hrch := (lc_rch_of y3)
  -- the rows to work in: as they were, if the class throws
  obtain ⟨wl, hwl⟩ : ∃ wl : m_Rr × m_Rr × m_Rr, wl = if ok = true then (li', nr', nd') else (q_I h 467, q_I h 468, q_I h 469) := ⟨_, rfl⟩
  have eM : f_X12_drop pn (q_I h 457) (q_I h 463) (q_I h 464) (q_I h 465) (q_I h 467) (q_I h 468) (q_I h 469) (q_I h 470) (nI i) = some ((if ok = true then .inl (nI u) else .inr "java/lang/IllegalStateException"), wl.1, wl.2.1, wl.2.2, hk') := by
    unfold f_X12_drop
    rw [lc_chk H6 p6 hi, Option.bind_some]
    show ((f_X2_dropBale _ (nI i)).bind _) = _
    rw [y1, Option.bind_some]
    cases ok with
    | true =>
      dsimp only
      rw [if_pos (show ¬ q_bz true = 0 by decide), u1, Option.bind_some, hwl]
      rfl
    | false =>
      rw [if_neg (show ¬ ¬ q_bz false = 0 from fun hh => hh rfl), hwl]
      rfl
  have hD5 : la_D H m hf ns Q pn nu od T1 K1 G (q_jI h4 [(467, wl.1), (468, wl.2.1), (469, wl.2.2), (470, hk')]) s := ⟨la_D0_j (X := (q_I h4 457, q_I h4 459, q_I h4 460, q_I h4 461, q_I h4 462, q_I h4 463, q_I h4 464, q_I h4 465, q_I h4 466, q_I h4 467, q_I h4 468, q_I h4 469, hk', q_I h4 471, q_I h4 472, q_I h4 490, q_I h4 491)) rfl rfl hD4, by
    show lc_Ag (q_I h4 457) (q_I h4 459) (q_I h4 462)
    rw [eR 457 (by decide), eR 459 (by decide), eR 462 (by decide)]
    exact hA⟩
  rw [← pl.1, ← eR 402 (by decide), ← eR 457 (by decide), ← eR 463 (by decide), ← eR 464 (by decide), ← eR 465 (by decide), ← eR 467 (by decide), ← eR 468 (by decide), ← eR 469 (by decide), ← eR 470 (by decide)] at eM
  refine k_callV (M2 := m_X12_drop) (b := 400) (As := [.int (nI i)]) (rest := []) okB_L_act ok_X12_drop rfl (Or.inl rfl) cv_X12_drop (Nat.le_refl _) (hC4.1.2 400 (by decide)).1 (show vwCl[10]? = some _ from rfl) rfl (lq_drop (d := d - 1) (by omega) hC4.1 hC4.2 eM) (by omega) (q_lcle (by omega) hd2) (by omega) (by omega) (Nat.le_of_ble_eq_true rfl) (fun x hx => absurd hx List.not_mem_nil) (fun _ _ _ => List.not_mem_nil) (fun _ _ => List.not_mem_nil) rfl (fun v h5 hq => ?_) (fun E h5 hq => ?_)
  · obtain ⟨q1, rfl⟩ := hq
    cases ok with
    | false => cases q1
    | true =>
      cases q1
      have y9 : v6 = 1 := y9
      subst y9
      have hS5 : q_sh (q_jI h4 [(467, wl.1), (468, wl.2.1), (469, wl.2.2), (470, hk')]) s = (0, 12, 0) := hSim.2
      refine w_L_act_158 (by omega) ⟨⟨hSim.1, hS5⟩, ?_⟩
      refine la_simUseless (d2 := d - 1) (by omega) (by omega) (by omega) (q_lcle (by omega) hd2) (z_RB_jI rfl hX0) hD5.1.2.2.2.2 (by omega) (by omega) (fun k' n' y h6 hk6 hn6 hy e6 => ?_)
      obtain ⟨hL2, st2, sh2, sw2, sp2, ss2, sr2, sa2, sd2, hR2, hy⟩ := hy
      have hnb : lc_nb hL2 (q_I h 459) = lc_nb hL (q_I h 459) := by
        unfold lc_nb
        have e1 := lc_b7 hR2
        rw [lc_b7 y3] at e1
        have a1 := (m_R_len y3.2.2.1 y3.2.2.2.1).2.2.1
        have a2 := (m_R_len hR2.2.2.1 hR2.2.2.2.1).2.2.1
        rw [(nI_eq (by omega) (by omega)).mp e1]
      rw [hnb] at hy
      have hyu : nI u = y := by rw [hy]; congr 1; omega
      have hD6 : la_D H m hf ns Q pn nu od T1 K1 G h6 s := by
        have f6 := z_fr_ext e6
        have e9 : ∀ a, a < 492 → q_I h6 a = q_I (q_jI h4 [(467, wl.1), (468, wl.2.1), (469, wl.2.2), (470, hk')]) a := fun a ha => (z_I_fr hD5.1.1.1 f6 ha).1
        have eX : la_X (q_I h6) = la_X (q_I (q_jI h4 [(467, wl.1), (468, wl.2.1), (469, wl.2.2), (470, hk')])) := la_X_e e9
        have h1 := la_D0_fr hD5.1 f6 (la_RB_ext e6 hD5.1.2.2.2.1) (z_Cn_s hD5.1.2.2.2.2 (e6.2 s (la_RB_s hD5.1.2.2.2.1).2.1).2.1)
        exact ⟨by rw [eX]; exact h1, by rw [e9 457 (by decide), e9 459 (by decide), e9 462 (by decide)]; exact hD5.2⟩
      exact ⟨fun hc => absurd hyu hc, fun _ => ⟨fun hc => absurd hc (by decide), fun _ => ⟨rfl, ⟨by omega, by omega⟩, 1, rfl, rfl, hD6⟩⟩⟩
  · obtain ⟨q1, rfl⟩ := hq
    cases ok with
    | true => cases q1
    | false =>
      cases q1
      have y9 : v6 = 0 := y9
      subst y9
      exact la_catch 3 (by omega) (by decide) (by decide) (by decide) ⟨rfl, trivial⟩ (by omega) (by omega) ⟨1, rfl, rfl, hD5⟩
end LAFOL
