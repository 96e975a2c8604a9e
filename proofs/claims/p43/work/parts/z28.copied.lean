/-! THE LAW'S LOOP: copied by both, and counted -/
section LACOPIED
variable {xt : List ExceptionTableEntry} {g : q_G} {mc ms : Nat} {mv : List Nat} {Qp : q_Po} {H m hf ns oc G s k n B : Nat} {Q : Nat → Nat → Nat} {pn nu : m_Rr} {od : Nat → Option Nat} {T1 : Nat → m_Rr} {K1 : Nat → Nat → Option Nat} {h h' : q_H} {hk ly sz ag : m_Rr} {v5 : Int32}
/-- one list of the half: as many bales -/
theorem lw_nbE {hL hL0 : List Nat} {st sh sw sp ss sr sa sd st0 sh0 sw0 sp0 ss0 sr0 sa0 sd0 : m_Rr} (hR : la_m H m hf hL h st sh sw sp ss sr sa sd) (hR0 : la_m H m hf hL0 h' st0 sh0 sw0 sp0 ss0 sr0 sa0 sd0) (e1 : q_I h' 457 = q_I h 457) (e2 : q_I h' 465 = q_I h 465) : lc_nb hL (q_I h 459) = lc_nb hL0 (q_I h' 459) := by
  have a1 := lc_nbI hR
  have a2 := lc_nbI hR0
  rw [e1, e2, a1] at a2
  exact (nI_eq (by have := lc_nb_128 hR; omega) (by have := lc_nb_128 hR0; omega)).mp a2
/-- what was noted, once both have copied -/
theorem lw_A5 (hT : la_St H m hf ns oc Q pn nu od T1 K1) (hW : la_W3 H m hf ns Q pn nu od T1 K1 G hk ly sz ag B s h) (hF : la_Fl H hk ly sz ag B H h) {h17 h21 h25 : q_H} {x : Int32} (e17 : la_lk h h17) (hCp : la_Cp H m hf h17 h21 x) (hhi : ∀ a, 492 ≤ a → q_I h21 a = q_I h17 a) (hnx : q_nx h21 = q_nx h17) (hsh : q_sh h21 = q_sh h17) (f : z_fr h21 h25) (ri : ∀ a, a < 492 → q_I h25 a = q_I h21 a) (e33 : la_lk h25 h') : la_A5 H B h' := by
  obtain ⟨w1, ⟨w2, w3⟩, ⟨w4, w5, w6⟩, w7, w8, w9, w10⟩ := hW
  obtain ⟨a1, a2, -, -, -, a6⟩ := e17
  obtain ⟨c1, c2, -, -, -, c6⟩ := e33
  have hn17 : q_nx h21 = q_nx h := hnx.trans a1
  have hs17 : q_sh h21 = q_sh h := hsh.trans a2
  have arr : ∀ a, B ≤ a → a < B + 3 → (q_sh h a).1 = 1 → q_sh h' a = q_sh h a ∧ q_I h' a = q_I h a := fun a h1 h2 h3 => by
    obtain ⟨f1, -, -, f4, -⟩ := f.2 a (by omega)
    have h4 : q_sh h21 a = q_sh h a := by rw [hs17]
    refine ⟨by rw [c2, f1, h4], ?_⟩
    rw [c6 a (lw_sc (by omega)), f4 (fun e => by rw [h4] at e; rw [e] at h3; cases h3) (fun e => by rw [h4] at e; rw [e] at h3; cases h3), hhi a (by omega), a6 a (lw_sc (by omega))]
  obtain ⟨s1, r1⟩ := arr B (by omega) (by omega) (by rw [w4])
  obtain ⟨s2, r2⟩ := arr (B + 1) (by omega) (by omega) (by rw [w5])
  obtain ⟨s3, r3⟩ := arr (B + 2) (by omega) (by omega) (by rw [w6])
  have rr : ∀ a, a < 492 → la_scB a = false → q_I h' a = q_I h21 a := fun a h1 h2 => (c6 a h2).trans (ri a h1)
  obtain ⟨hL, st, sh, sw, sp, ss, sr, sa, sd, hL', st', sh', sw', sp', ss', sr', sa', sd', hR, hR', hCq, ⟨j1, j2, j3, j4⟩, -, -⟩ := hCp
  have k7 : q_I h' 470 = hk := by rw [rr 470 (by decide) rfl, j4, a6 470 rfl]; exact w7
  have k8 : q_I h17 459 = ly := by rw [a6 459 rfl]; exact w8
  have k9 : q_I h' 461 = sz := by rw [rr 461 (by decide) rfl, j1, a6 461 rfl]; exact w9
  have k10 : q_I h17 462 = ag := by rw [a6 462 rfl]; exact w10
  refine ⟨⟨w2, ?_⟩, ⟨s1.trans w4, s2.trans w5, s3.trans w6⟩, fun i hi => ?_⟩
  · rw [c1]
    have := f.1
    omega
  rw [k7, r1, r2, r3, k9, rr 459 (by decide) rfl, rr 462 (by decide) rfl]
  rcases hF.1 i hi with h0 | ⟨b, b8, b0, hb, y1, y2, y3⟩
  · exact Or.inl h0
  · have hv := (hR.2.2.1 b b8).2 (by rw [k8]; exact b0)
    obtain ⟨z, z1, z2, z3⟩ := hv
    have z3 : sz b = nI z := by rw [← w9, ← a6 461 rfl]; exact z3
    have hlv : ¬ q_I h21 459 b = 0 := by
      rcases lc_hook hR' hi with e | ⟨c, d8, d0, hc⟩
      · rw [j4, a6 470 rfl, w7, hb] at e
        exact absurd e (m_nI_m1 (by omega))
      · rw [j4, a6 470 rfl, w7, hb] at hc
        have : b = c := (nI_eq (by omega) (by omega)).mp hc
        rw [this]; exact d0
    refine Or.inr ⟨b, z, b8, hb, y1.trans z3, by omega, z2, z3, ?_⟩
    rw [y2, y3]
    have q := hCq.2.2.2.1 b b8 hlv
    rw [k8, k10] at q
    rcases q with ⟨q1, q2, q3⟩ | ⟨q1, q2⟩
    · rw [decide_eq_true q1]
      exact Or.inl ⟨rfl, q2, q3⟩
    · rw [decide_eq_false (show ¬ ly b = 2 by rw [q1]; decide)]
      refine Or.inr ⟨rfl, ?_⟩
      rcases q2 with ⟨q2, q3⟩ | ⟨q2, q3⟩
      · exact Or.inl ⟨q2, q3⟩
      · exact Or.inr ⟨q2, q3⟩
theorem la_302e (hm1 : ∀ x ∈ [471, 472], x ∈ mv) (hm2 : ∀ x ∈ [487, 488], x ∈ mv) (hT : la_St H m hf ns oc Q pn nu od T1 K1) (hG : G < 2 ^ 27) (hW : la_W3 H m hf ns Q pn nu od T1 K1 G hk ly sz ag B s h) (hF : la_Fl H hk ly sz ag B H h) (hk0 : k + 101 ≤ mc) (hn : n + 12288 ≤ ms)
    (hK : ∀ h' k2 n2, la_D H m hf ns Q pn nu od T1 K1 (G + 1) h' s → la_A5 H B h' → k2 ≤ k + 101 → n2 ≤ n + 12288 → la_K xt g mc ms mv Qp k2 n2 (385, la_l385 s (nI H) v5 B (B + 1) (B + 2) 0, [], h')) : la_K xt g mc ms mv Qp k n (302, la_l302 s (nI H) v5 B (B + 1) (B + 2) (nI H), [], h) := by
  have H6 := hT.1.2
  have hD := la_W3_D hW
  have hS := la_D_S hT hD
  have hO := la_O hS
  obtain ⟨s1, s2, s3⟩ := la_D_Sim hD
  obtain ⟨B1, B2⟩ := hW.2.1
  obtain ⟨hL, st, sh, sw, sp, ss, sr, sa, sd, hR⟩ := id hS.2.2.2.1
  refine w_L_lw_302 (by decide) ⟨fun _ => ⟨hO, lw_c (lk_bales (d := 1000) (by decide) hS) (by omega) (by omega) ⟨hO, lw_c (lk_balesInLoft (d := 1000) (by decide) hS) (by omega) (by omega) ⟨hO, lw_c (lk_balesPromoted (d := 1000) (by decide) hS) (by omega) (by omega) ⟨hO, lw_p (P := fun y => y = nI (lc_nb hL (q_I h 459) - (lc_rch H (q_I h 463) (q_I h 464) (q_I h 470)).length)) (lk_useless (d := 1000) (by decide) hS hR) (by omega) (by omega) trivial (fun x16 h13 hx16 e13 => ?_)⟩⟩⟩⟩, fun hq => absurd (nI_le (Nat.le_refl _) (by omega)) hq⟩
  have hS13 := lc_S_lk e13 hS
  refine ⟨la_O hS13, lw_p (lk_ifCopied (d := 1000) (by decide) hS13) (by omega) (by omega) ⟨hm2, (lw_nm (fun a ha => by
    have ha : @Eq Nat a 52 ∨ @Eq Nat a s ∨ @Eq Nat a 400 ∨ @Eq Nat a B ∨ @Eq Nat a (B + 1) ∨ @Eq Nat a (B + 2) := by simpa using ha
    omega)).2, fun _ hb => by cases hb⟩ (fun x20 h17 hx20 e17' => ?_)⟩
  have e17 := la_lk_t e13 e17'
  have hD17 := la_D_lk e17 hD
  have hS17 := lc_S_lk e17 hS
  have hIf17 := lc_If_lk e17' hx20.1
  refine ⟨la_O hS17, lw_copyC hT hD17 (by omega) ⟨hm1, (lw_nm (fun a ha => by
    have ha : @Eq Nat a 52 ∨ @Eq Nat a s ∨ @Eq Nat a 400 ∨ @Eq Nat a B ∨ @Eq Nat a (B + 1) ∨ @Eq Nat a (B + 2) := by simpa using ha
    omega)).1, fun _ hb => by cases hb⟩ (by omega) (by omega) (fun x24 h21 hM hCp hhi hnx hsh => ?_)⟩
  refine lw_copyS hT hM (by omega) (by omega) (fun k' n' y h25 hk' hn' hD25 f25 => ?_)
  have ri : ∀ a, a < 492 → q_I h25 a = q_I h21 a := fun a ha => (z_I_fr hM.1.1.1 f25 ha).1
  have hCp0 := hCp
  obtain ⟨hL0, st0, sh0, sw0, sp0, ss0, sr0, sa0, sd0, hL', st', sh', sw', sp', ss', sr', sa', sd', hR0, hR', hCq, ⟨j1, j2, j3, j4⟩, -, hIf⟩ := hCp
  have r17 := e17.2.2.2.2.2
  have eN := lw_nbE hR hR0 (r17 457 rfl) (r17 465 rfl)
  have h128 := lc_nb_128 hR
  obtain ⟨gn, g1, g2, g3⟩ := hCq.2.1
  have hR25 : la_m H m hf hL' h25 st' sh' sw' sp' ss' sr' sa' sd' := by
    show m_R H m hf hL' (q_I h25 457) (q_I h25 459) (q_I h25 460) (q_I h25 461) (q_I h25 462) (q_I h25 463) (q_I h25 464) (q_I h25 465) (q_I h25 466) (q_I h25 470) (q_I h25 471) _ _ _ _ _ _ _ _
    rw [ri 457 (by decide), ri 459 (by decide), ri 460 (by decide), ri 461 (by decide), ri 462 (by decide), ri 463 (by decide), ri 464 (by decide), ri 465 (by decide), ri 466 (by decide), ri 470 (by decide), ri 471 (by decide)]
    exact hR'
  obtain ⟨u, li2, nr2, nd2, -, u2⟩ := lc_useless hR25 (q_I h 467) (q_I h 468) (q_I h 469)
  have eR : lc_rch H (q_I h25 463) (q_I h25 464) (q_I h25 470) = lc_rch H (q_I h 463) (q_I h 464) (q_I h 470) := by
    rw [ri 463 (by decide), ri 464 (by decide), ri 470 (by decide), j2, j3, j4, r17 463 rfl, r17 464 rfl, r17 470 rfl]
  rw [eR, ri 459 (by decide)] at u2
  generalize hrn : (lc_rch H (q_I h 463) (q_I h 464) (q_I h 470)).length = rn at hx16 u2
  have hS25 := la_D_S hT hD25
  have hO25 := la_O hS25
  have hus := lk_useless (g := g) (d := 1000) (by decide) hS25 hR25
  rw [eR, hrn, ri 459 (by decide)] at hus
  have b25 : q_I h25 457 7 + q_I h25 465 2 = nI (lc_nb hL' (q_I h21 459)) := by rw [← ri 459 (by decide)]; exact lc_nbI hR25
  have b0 : q_I h 457 7 + q_I h 465 2 = nI (lc_nb hL (q_I h 459)) := lc_nbI hR
  refine ⟨fun hq => absurd (by rw [g1] at hq; exact hq) (nI_pos (by omega)), fun _ => ⟨fun hq => absurd ?_ (m_nlt (a := lc_nb hL (q_I h 459) - rn) (b := gn) (by omega) (by omega)), fun _ => ⟨hO25, lw_c (lk_bales (d := 1000) (by decide) hS25) (by omega) (by omega) ⟨fun hq => absurd ?_ hq, fun _ => ⟨hO25, lw_p (P := fun y => y = nI (lc_nb hL' (q_I h21 459) - rn)) hus (by omega) (by omega) trivial (fun x36 h33 hx36 e33 => ?_)⟩⟩⟩⟩⟩
  · rw [hx16, g1] at hq; exact hq
  · rw [b25, b0, g1, m_subI (by omega), show lc_nb hL (q_I h 459) - gn = lc_nb hL' (q_I h21 459) by omega]
  have hS33 := lc_S_lk e33 hS25
  have hO33 := la_O hS33
  have r33 := e33.2.2.2.2.2
  have v8 : q_I h33 457 8 = x20 := by rw [r33 457 rfl, ri 457 (by decide)]; exact hIf x20 hIf17
  have l0 : q_I h 465 2 = nI (lc_ll (q_I h 459)).length := lc_lo2 hR
  have l1 : q_I h33 465 2 = nI (lc_ll (q_I h21 459)).length := by rw [r33 465 rfl, ← ri 459 (by decide)]; exact lc_lo2 hR25
  have p1 : q_I h33 457 13 = q_I h 457 13 + nI ((lc_ll (q_I h21 459)).length - (lc_ll (q_I h 459)).length) := by
    rw [r33 457 rfl, ri 457 (by decide), hCq.2.2.1.2, r17 457 rfl, r17 459 rfl]
  have lle : (lc_ll (q_I h 459)).length ≤ (lc_ll (q_I h21 459)).length := by have := hCq.2.2.1.1; rw [r17 459 rfl] at this; exact this
  refine ⟨fun hq => absurd ?_ hq, fun _ => ⟨hO33, lw_c (lk_usedPlaces (d := 1000) (by decide) hS33) (by omega) (by omega) ⟨fun hq => absurd v8 hq, fun _ => ⟨hO33, lw_c (lk_balesInLoft (d := 1000) (by decide) hS33) (by omega) (by omega) ⟨hO33, lw_c (lk_balesPromoted (d := 1000) (by decide) hS33) (by omega) (by omega) ⟨fun _ => ?_, fun hq => absurd ?_ hq⟩⟩⟩⟩⟩⟩
  · rw [hx36, hx16, g1, m_subI (by omega)]
    congr 1
    omega
  · exact hK h33 _ _ (la_D_lk e33 hD25) (lw_A5 hT hW hF e17 hCp0 hhi hnx hsh f25 ri e33) (by omega) (by omega)
  · rw [l1, l0, p1, m_subI lle, Int32.add_comm, Int32.add_sub_cancel]
end LACOPIED
