/-! ACT: copied, swept, worked -/
section LACOPY
variable {g : q_G} {d mc ms H m hf ns oc G : Nat} {Q : Nat → Nat → Nat} {pn nu : m_Rr} {od : Nat → Option Nat} {T1 : Nat → m_Rr} {K1 : Nat → Nat → Option Nat} {h h0 h' : q_H} {s k n : Nat}
theorem la_aCopy (hd : 30 ≤ d) (hd2 : d < 2048) (hT : la_St H m hf ns oc Q pn nu od T1 K1) (hD : la_D H m hf ns Q pn nu od T1 K1 G h s) (hG : G < 2 ^ 29) (hk : k + 104 ≤ mc) (hn : n + 12500 ≤ ms) :
    q_K g m_L_act (tableOf la_hh) d mc ms h0 [471, 472] (la_Qa H m hf ns Q pn nu od T1 K1 (G + 1) s) k n (176, [none, some (.ref s), none, none, none, none, none, none, none], [.ref 400], h) := by
  obtain ⟨hD0, hA⟩ := hD
  obtain ⟨⟨c1, c2⟩, pl, rows, hRB, hN⟩ := id hD0
  obtain ⟨⟨H0, H6⟩, ⟨hf32, hm64⟩, ⟨mp, hP⟩, -⟩ := id hT
  obtain ⟨hL, Y, ν, hl, ll, hkL, hR, hB⟩ := id hRB
  have hR : la_m H m hf hL h _ _ _ _ _ _ _ _ := hR
  have hB : z_B h s ν H m hf hL pn (q_I h 457) (q_I h 459) (q_I h 460) (q_I h 461) (q_I h 462) (q_I h 463) (q_I h 464) (q_I h 470) hl ll hkL := hB
  obtain ⟨o1, o2, o3, c, o4, o5, o6⟩ := z_OK_s hB.1
  obtain ⟨g0, p0, q0, t1, t2, t3, t4, t5, t6, t7⟩ := la_Ct hB hN
  obtain ⟨x, hL', bn', ly', pl', ag', lo', lr', li', nr', nd', rw', md', mq', mi', st', sw', sp', sa', r1, r2, r3, r4, -⟩ := lc_copy hP hR (q_I h 467) (q_I h 468) (q_I h 469) (q_I h 472) (fun _ => 0) (fun _ => 0) (fun _ => 0)
  have eM : f_X12_copyNow pn (q_I h 457) (q_I h 459) (q_I h 460) (q_I h 461) (q_I h 462) (q_I h 463) (q_I h 464) (q_I h 465) (q_I h 466) (q_I h 467) (q_I h 468) (q_I h 469) (q_I h 470) (q_I h 471) (q_I h 472) = some (x, bn', ly', pl', ag', lo', lr', li', nr', nd', rw', q_I h 471) := by
    unfold f_X12_copyNow
    rw [r1, Option.bind_some]
  rw [← pl.1] at eM
  refine k_callV (M2 := m_X12_copyNow) (b := 400) (As := []) (rest := []) okB_L_act ok_X12_copyNow rfl (Or.inl rfl) cv_X12_copyNow (Nat.le_refl _) (c1.2 400 (by decide)).1 (show vwCl[10]? = some _ from rfl) rfl (lq_copyNow (d := d - 1) (by omega) c1 c2 eM) (by omega) (q_lcle (by omega) hd2) (by omega) (by omega) (Nat.le_of_ble_eq_true rfl) (fun _ h => h) (la_nm (fun a ha => ?_)) (fun _ hb => by cases hb) rfl (fun v h5 hq => ?_) (fun E h5 hq => by cases hq.1)
  · have ha : @Eq Nat a s := by simpa using ha
    exact Or.inr (by omega)
  · obtain ⟨q1, q2⟩ := hq
    cases q1
    have hD1 := la_D0_j (l := [(457, bn'), (459, ly'), (460, pl'), (462, ag'), (465, lo'), (466, lr'), (467, li'), (468, nr'), (469, nd'), (471, rw'), (472, q_I h 471)]) rfl rfl hD0
    rw [← q2] at hD1
    have hS5 : q_sh h5 s = (0, 12, 0) := by rw [q2]; exact o1
    refine w_L_act_177 (by omega) ⟨⟨z_4 o2, hS5⟩, ?_⟩
    refine la_simCopy (d2 := d - 1) (by omega) (by omega) (by omega) (q_lcle (by omega) hd2) hT hD1.2.2.2.1 hD1.2.2.2.2 (q_I h 467) (q_I h 468) (q_I h 469) (q_I h 472) (by omega) (by omega) (fun k' n' y h6 b1 b2 b3 b4 b5 b6 b7 b8 b9 b10 hk6 hn6 e1 f6 N6 hX6 => ?_)
    have e2 := Option.some.inj (r1.symm.trans e1)
    simp only [Prod.mk.injEq] at e2
    obtain ⟨rfl, rfl, rfl, rfl, rfl, rfl, rfl, rfl, rfl, rfl, rfl, -⟩ := e2
    have eX : la_X (q_I h6) = la_X (q_I h5) := la_X_e (fun a ha => (z_I_fr hD1.1.1 f6 ha).1)
    have hD6 : la_D H m hf ns Q pn nu od T1 K1 (G + 1) h6 s := by
      refine ⟨?_, ?_⟩
      · rw [eX, q2]
        exact la_D0_fr hD1 f6 (hX6 li' nr' nd' (q_I h 471) (q_I h 490) (q_I h 491)) N6
      · rw [(z_I_fr hD1.1.1 f6 (show 457 < 492 by decide)).1, (z_I_fr hD1.1.1 f6 (show 459 < 492 by decide)).1, (z_I_fr hD1.1.1 f6 (show 462 < 492 by decide)).1, q2]
        exact lc_Ag_copy hA t2 (by omega) r4
    exact ⟨fun hc => absurd rfl hc, fun _ => ⟨rfl, ⟨by omega, by omega⟩, 1, rfl, rfl, hD6⟩⟩
theorem la_aSweep (hd : 30 ≤ d) (hd2 : d < 2048) (hT : la_St H m hf ns oc Q pn nu od T1 K1) (hD : la_D H m hf ns Q pn nu od T1 K1 G h s) (hk : k + 390 ≤ mc) (hn : n + 50000 ≤ ms) :
    q_K g m_L_act (tableOf la_hh) d mc ms h0 [471, 472] (la_Qa H m hf ns Q pn nu od T1 K1 (G + 1) s) k n (185, [none, some (.ref s), none, none, none, none, none, none, none], [.ref 400], h) := by
  obtain ⟨hD0, hA⟩ := hD
  obtain ⟨⟨c1, c2⟩, pl, rows, hRB, hN⟩ := id hD0
  obtain ⟨⟨H0, H6⟩, ⟨hf32, hm64⟩, ⟨mp, hP⟩, -⟩ := id hT
  obtain ⟨hL, Y, ν, hl, ll, hkL, hR, hB⟩ := id hRB
  have hR : la_m H m hf hL h _ _ _ _ _ _ _ _ := hR
  have hB : z_B h s ν H m hf hL pn (q_I h 457) (q_I h 459) (q_I h 460) (q_I h 461) (q_I h 462) (q_I h 463) (q_I h 464) (q_I h 470) hl ll hkL := hB
  obtain ⟨o1, o2, o3, c, o4, o5, o6⟩ := z_OK_s hB.1
  obtain ⟨x, bn', ly', ld', lo', lr', li', nr', nd', md', mq', mi', st', sw', sd', r1, r2, r3, r4, r5, r6, r7⟩ := lc_sweep hP hR (q_I h 467) (q_I h 468) (q_I h 469) (fun _ => 0) (fun _ => 0) (fun _ => 0)
  have eM : f_X12_sweepLoft pn (q_I h 457) (q_I h 459) (q_I h 460) (q_I h 461) (q_I h 463) (q_I h 464) (q_I h 465) (q_I h 466) (q_I h 467) (q_I h 468) (q_I h 469) (q_I h 470) = some (x, bn', ly', ld', lo', lr', li', nr', nd') := by
    unfold f_X12_sweepLoft
    rw [r1, Option.bind_some]
  rw [← pl.1] at eM
  refine k_callV (M2 := m_X12_sweepLoft) (b := 400) (As := []) (rest := []) okB_L_act ok_X12_sweepLoft rfl (Or.inl rfl) cv_X12_sweepLoft (Nat.le_refl _) (c1.2 400 (by decide)).1 (show vwCl[10]? = some _ from rfl) rfl (lq_sweepLoft (d := d - 1) (by omega) c1 c2 eM) (by omega) (q_lcle (by omega) hd2) (by omega) (by omega) (Nat.le_of_ble_eq_true rfl) (fun x hx => absurd hx List.not_mem_nil) (fun _ _ _ => List.not_mem_nil) (fun _ _ => List.not_mem_nil) rfl (fun v h5 hq => ?_) (fun E h5 hq => by cases hq.1)
  obtain ⟨q1, q2⟩ := hq
  cases q1
  have hD1 := la_D0_j (l := [(457, bn'), (459, ly'), (464, ld'), (465, lo'), (466, lr'), (467, li'), (468, nr'), (469, nd')]) rfl rfl hD0
  rw [← q2] at hD1
  have hS5 : q_sh h5 s = (0, 12, 0) := by rw [q2]; exact o1
  refine w_L_act_186 (by omega) ⟨⟨z_4 o2, hS5⟩, ?_⟩
  refine la_simSweep (d2 := d - 1) (by omega) (by omega) (by omega) (q_lcle (by omega) hd2) hT hD1.2.2.2.1 hD1.2.2.2.2 (q_I h 467) (q_I h 468) (q_I h 469) (by omega) (by omega) (fun k' n' y h6 b1 b2 b3 b4 b5 b6 b7 b8 hk6 hn6 e1 f6 N6 hX6 => ?_)
  have e2 := Option.some.inj (r1.symm.trans e1)
  simp only [Prod.mk.injEq] at e2
  obtain ⟨rfl, rfl, rfl, rfl, rfl, rfl, rfl, rfl, rfl⟩ := e2
  have eX : la_X (q_I h6) = la_X (q_I h5) := la_X_e (fun a ha => (z_I_fr hD1.1.1 f6 ha).1)
  have hD6 : la_D H m hf ns Q pn nu od T1 K1 (G + 1) h6 s := by
    refine ⟨?_, ?_⟩
    · rw [eX, q2]
      exact la_D0_fr hD1 f6 (hX6 li' nr' nd' (q_I h 472) (q_I h 490) (q_I h 491)) N6
    · rw [(z_I_fr hD1.1.1 f6 (show 457 < 492 by decide)).1, (z_I_fr hD1.1.1 f6 (show 459 < 492 by decide)).1, (z_I_fr hD1.1.1 f6 (show 462 < 492 by decide)).1, q2]
      obtain ⟨p, a1, a2, a3⟩ := hA
      exact ⟨p, a1, (r5 12 (by decide)).trans a2, fun b hb h0 => a3 b hb (by rw [← r6 b hb h0]; exact h0)⟩
  exact ⟨fun hc => absurd rfl hc, fun _ => ⟨rfl, ⟨by omega, by omega⟩, 1, rfl, rfl, hD6⟩⟩
/-- the class works -/
theorem lc_fwork (hns : 0 < ns) (q4 : pn 4 = nI ns) (h20 : ns ≤ 20) {N : Nat} (N1 : 1 ≤ N) (N100 : N ≤ 100) {X X' : m_CB} {v : Int32} (hM : m_gC pn nu od T1 K1 (nI N) 4096 X 0 0 = some (v, X')) : f_X12_work pn nu X.1 X.2.1 X.2.2.1 X.2.2.2.1 X.2.2.2.2.1 X.2.2.2.2.2.1 X.2.2.2.2.2.2.1 X.2.2.2.2.2.2.2.1 X.2.2.2.2.2.2.2.2.1 X.2.2.2.2.2.2.2.2.2.1 X.2.2.2.2.2.2.2.2.2.2.1 X.2.2.2.2.2.2.2.2.2.2.2.1 X.2.2.2.2.2.2.2.2.2.2.2.2.1 X.2.2.2.2.2.2.2.2.2.2.2.2.2.1 X.2.2.2.2.2.2.2.2.2.2.2.2.2.2.1 X.2.2.2.2.2.2.2.2.2.2.2.2.2.2.2.1 X.2.2.2.2.2.2.2.2.2.2.2.2.2.2.2.2 od T1 K1 (nI N) = some (.inl v, X') := by
  unfold f_X12_work f_X12_checkWork
  rw [if_neg (show ¬ nI N < 1 from m_nlt (a := N) (b := 1) N1 (by omega)), if_pos (show nI N ≤ 100 from nI_le (b := 100) N100 (by decide)), q4, if_pos (nI_ne0 hns (by omega)), Option.bind_some]
  show ((f_X3_goOn _ _ _ _ _ _ _ _ _ _ _ _ _ _ _ _ _ _ _ _ _ _ _).bind _) = _
  rw [m_goC, hM]; rfl
theorem lc_fwork0 (q4 : pn 4 = nI 0) {N : Nat} (N1 : 1 ≤ N) (N100 : N ≤ 100) {X : m_CB} : f_X12_work pn nu X.1 X.2.1 X.2.2.1 X.2.2.2.1 X.2.2.2.2.1 X.2.2.2.2.2.1 X.2.2.2.2.2.2.1 X.2.2.2.2.2.2.2.1 X.2.2.2.2.2.2.2.2.1 X.2.2.2.2.2.2.2.2.2.1 X.2.2.2.2.2.2.2.2.2.2.1 X.2.2.2.2.2.2.2.2.2.2.2.1 X.2.2.2.2.2.2.2.2.2.2.2.2.1 X.2.2.2.2.2.2.2.2.2.2.2.2.2.1 X.2.2.2.2.2.2.2.2.2.2.2.2.2.2.1 X.2.2.2.2.2.2.2.2.2.2.2.2.2.2.2.1 X.2.2.2.2.2.2.2.2.2.2.2.2.2.2.2.2 od T1 K1 (nI N) = some (.inr "java/lang/IllegalStateException", X) := by
  unfold f_X12_work f_X12_checkWork
  rw [if_neg (show ¬ nI N < 1 from m_nlt (a := N) (b := 1) N1 (by omega)), if_pos (show nI N ≤ 100 from nI_le (b := 100) N100 (by decide)), q4, if_neg (show ¬ ¬ nI 0 = 0 from fun hh => hh rfl), Option.bind_some]
  rfl
/-- the plan's rows, as the class reads them -/
theorem la_wk {h : q_H} {N : Nat} {r0 : (Int32 ⊕ String) × m_CB} (hP : la_Pl pn nu od T1 K1 h) (e : f_X12_work pn nu (q_I h 457) (q_I h 459) (q_I h 460) (q_I h 461) (q_I h 462) (q_I h 463) (q_I h 464) (q_I h 465) (q_I h 466) (q_I h 467) (q_I h 468) (q_I h 469) (q_I h 470) (q_I h 471) (q_I h 472) (q_I h 490) (q_I h 491) od T1 K1 (nI N) = some r0) : f_X12_work (q_I h 402) (q_I h 405) (q_I h 457) (q_I h 459) (q_I h 460) (q_I h 461) (q_I h 462) (q_I h 463) (q_I h 464) (q_I h 465) (q_I h 466) (q_I h 467) (q_I h 468) (q_I h 469) (q_I h 470) (q_I h 471) (q_I h 472) (q_I h 490) (q_I h 491) (q_E h 404) (q_tR (q_I h) 406) (q_tR (q_E h) 406) (nI N) = some r0 := by
  obtain ⟨e1, e2, e3, e4, e5⟩ := hP
  rw [e1, e2, e3, e4, e5]; exact e
theorem la_aWork (hd : 30 ≤ d) (hd2 : d < 2048) (hT : la_St H m hf ns oc Q pn nu od T1 K1) (hD : la_D H m hf ns Q pn nu od T1 K1 G h s) (hG : G < 2 ^ 28) {N : Nat} (N1 : 1 ≤ N) (N9 : N ≤ 9) {v6 : Int32} (hv : (ns = 0 ∧ v6 = 0) ∨ (0 < ns ∧ v6 = 1)) (hk : k + 950 ≤ mc) (hn : n + 112000 ≤ ms) :
    q_K g m_L_act (tableOf la_hh) d mc ms h0 [471, 472] (la_Qa H m hf ns Q pn nu od T1 K1 (G + 18) s) k n (211, [none, some (.ref s), none, none, none, none, some (.int v6), some (.int (nI N)), none], [.int (nI N), .ref 400], h) := by
  obtain ⟨hD0, hA⟩ := hD
  obtain ⟨⟨c1, c2⟩, pl, rows, hRB, hN⟩ := id hD0
  obtain ⟨⟨H0, H6⟩, ⟨hf32, hm64⟩, ⟨mp, hP⟩, ⟨q4, hns12⟩, ⟨q5, hoc⟩, hTl⟩ := id hT
  obtain ⟨hL, Y, ν, hl, ll, hkL, hR, hB⟩ := id hRB
  have hR : la_m H m hf hL h _ _ _ _ _ _ _ _ := hR
  have hB : z_B h s ν H m hf hL pn (q_I h 457) (q_I h 459) (q_I h 460) (q_I h 461) (q_I h 462) (q_I h 463) (q_I h 464) (q_I h 470) hl ll hkL := hB
  obtain ⟨o1, o2, o3, c, o4, o5, o6⟩ := z_OK_s hB.1
  obtain ⟨g0, p0, q0, t1, t2, t3, t4, t5, t6, t7⟩ := la_Ct hB hN
  have nmS : ∀ a : Nat, some (Value.ref a) ∈ ([none, some (.ref s), none, none, none, none, some (.int v6), some (.int (nI N)), none] : List (Option Value)) → a < 471 ∨ 473 ≤ a := fun a ha => by
    have ha : @Eq Nat a s := by simpa using ha
    exact Or.inr (by omega)
  rcases hv with ⟨hz, rfl⟩ | ⟨hpos, rfl⟩
  · subst hz
    have eM := la_wk pl (lc_fwork0 (X := la_X (q_I h)) (nu := nu) (od := od) (T1 := T1) (K1 := K1) q4 N1 (by omega))
    refine k_callV (M2 := m_X12_work) (b := 400) (As := [.int (nI N)]) (rest := []) okB_L_act ok_X12_work rfl (Or.inl rfl) cv_X12_work (Nat.le_refl _) (c1.2 400 (by decide)).1 (show vwCl[10]? = some _ from rfl) rfl (lq_work (d := d - 1) (by omega) c1 c2 eM) (by omega) (q_lcle (by omega) hd2) (by omega) (by omega) (Nat.le_of_ble_eq_true rfl) (fun _ h => h) (la_nm nmS) (fun _ hb => by cases hb) rfl (fun v h5 hq => by cases hq.1) (fun E h5 hq => ?_)
    obtain ⟨q1, rfl⟩ := hq
    cases q1
    have hD5 : la_D H m hf 0 Q pn nu od T1 K1 (G + 18) (q_jI h [(457, q_I h 457), (459, q_I h 459), (460, q_I h 460), (461, q_I h 461), (462, q_I h 462), (463, q_I h 463), (464, q_I h 464), (465, q_I h 465), (466, q_I h 466), (467, q_I h 467), (468, q_I h 468), (469, q_I h 469), (470, q_I h 470), (471, q_I h 471), (472, q_I h 472), (490, q_I h 490), (491, q_I h 491)]) s := by
      obtain ⟨e1, e2, e3, e4, e5⟩ := la_D0_j (l := [(457, q_I h 457), (459, q_I h 459), (460, q_I h 460), (461, q_I h 461), (462, q_I h 462), (463, q_I h 463), (464, q_I h 464), (465, q_I h 465), (466, q_I h 466), (467, q_I h 467), (468, q_I h 468), (469, q_I h 469), (470, q_I h 470), (471, q_I h 471), (472, q_I h 472), (490, q_I h 490), (491, q_I h 491)]) rfl rfl hD0
      exact ⟨⟨e1, e2, e3, e4, z_Cn_mono e5 (by omega)⟩, hA⟩
    exact la_catch 5 (by omega) (by decide) (by decide) (by decide) ⟨rfl, trivial⟩ (by omega) (by omega) ⟨1, rfl, rfl, hD5⟩
  · obtain ⟨mp', pd, po, pq, pr, ps, pt, pe, pc, hPn⟩ := lc_Pn H6 hP q4 hns12 q5 hoc hTl
    obtain ⟨v, X', Y', y1, y2, y3⟩ := lc_run hPn hpos (c := N) (by omega) N 0 4096 (la_X (q_I h)) Y 0 g0 p0 (by omega) (by omega) ⟨hL, hR⟩ t1 (by omega) t2
    have y1 : m_gC pn nu od T1 K1 (nI N) 4096 (la_X (q_I h)) 0 0 = some (v, X') := y1
    have hA' := lc_runA hPn hpos (c := N) (by omega) N 0 4096 (la_X (q_I h)) Y 0 g0 p0 v X' (by omega) (by omega) ⟨hL, hR⟩ hA t1 (by omega) t2 (by omega) y1
    have eW := lc_fwork (X := la_X (q_I h)) (X' := X') (v := v) (pn := pn) (nu := nu) (od := od) (T1 := T1) (K1 := K1) hpos q4 (by omega) N1 (by omega) y1
    have eM := la_wk (N := N) (r0 := (.inl v, X')) pl eW
    refine k_callV (M2 := m_X12_work) (b := 400) (As := [.int (nI N)]) (rest := []) okB_L_act ok_X12_work rfl (Or.inl rfl) cv_X12_work (Nat.le_refl _) (c1.2 400 (by decide)).1 (show vwCl[10]? = some _ from rfl) rfl (lq_work (d := d - 1) (by omega) c1 c2 eM) (by omega) (q_lcle (by omega) hd2) (by omega) (by omega) (Nat.le_of_ble_eq_true rfl) (fun _ h => h) (la_nm nmS) (fun _ hb => by cases hb) rfl (fun w h5 hq => ?_) (fun E h5 hq => by cases hq.1)
    obtain ⟨q1, q2⟩ := hq
    cases q1
    have hD1 := la_D0_j (l := [(457, X'.1), (459, X'.2.1), (460, X'.2.2.1), (461, X'.2.2.2.1), (462, X'.2.2.2.2.1), (463, X'.2.2.2.2.2.1), (464, X'.2.2.2.2.2.2.1), (465, X'.2.2.2.2.2.2.2.1), (466, X'.2.2.2.2.2.2.2.2.1), (467, X'.2.2.2.2.2.2.2.2.2.1), (468, X'.2.2.2.2.2.2.2.2.2.2.1), (469, X'.2.2.2.2.2.2.2.2.2.2.2.1), (470, X'.2.2.2.2.2.2.2.2.2.2.2.2.1), (471, X'.2.2.2.2.2.2.2.2.2.2.2.2.2.1), (472, X'.2.2.2.2.2.2.2.2.2.2.2.2.2.2.1), (490, X'.2.2.2.2.2.2.2.2.2.2.2.2.2.2.2.1), (491, X'.2.2.2.2.2.2.2.2.2.2.2.2.2.2.2.2)]) rfl rfl hD0
    have q2 : h5 = q_jI h [(457, X'.1), (459, X'.2.1), (460, X'.2.2.1), (461, X'.2.2.2.1), (462, X'.2.2.2.2.1), (463, X'.2.2.2.2.2.1), (464, X'.2.2.2.2.2.2.1), (465, X'.2.2.2.2.2.2.2.1), (466, X'.2.2.2.2.2.2.2.2.1), (467, X'.2.2.2.2.2.2.2.2.2.1), (468, X'.2.2.2.2.2.2.2.2.2.2.1), (469, X'.2.2.2.2.2.2.2.2.2.2.2.1), (470, X'.2.2.2.2.2.2.2.2.2.2.2.2.1), (471, X'.2.2.2.2.2.2.2.2.2.2.2.2.2.1), (472, X'.2.2.2.2.2.2.2.2.2.2.2.2.2.2.1), (490, X'.2.2.2.2.2.2.2.2.2.2.2.2.2.2.2.1), (491, X'.2.2.2.2.2.2.2.2.2.2.2.2.2.2.2.2)] := q2
    have eX5 : la_X (q_I h5) = X' := by rw [q2]; rfl
    have eA5 : lc_Ag (q_I h5 457) (q_I h5 459) (q_I h5 462) := by rw [q2]; exact hA'
    rw [← q2] at hD1
    have hS5 : q_sh h5 s = (0, 12, 0) := by rw [q2]; exact o1
    refine w_L_act_212 (by omega) ⟨fun hc => absurd hc (by decide), fun _ => ⟨⟨z_4 o2, hS5⟩, ?_⟩⟩
    have hw := z_workC (g0 := g) (d := d - 1) (N := N) (by omega) (by omega) hP q4 hpos (by omega) q5 hoc hTl hf32 hm64 (by omega) hD1.2.2.1 hD1.2.2.2.1 t1 (by omega) hD1.2.2.2.2
    refine q_cI_of _ hw (by omega) (q_lcle (by omega) hd2) (by omega) (by omega) trivial (fun y h6 hp => ?_)
    obtain ⟨X6, e1, e2, f6, e4, N6⟩ := hp
    rw [y1] at e1
    cases e1
    have eX : la_X (q_I h6) = X' := (la_X_e (fun a ha => (z_I_fr hD1.1.1 f6 ha).1)).trans eX5
    have hD6 : la_D H m hf ns Q pn nu od T1 K1 (G + 18) h6 s := by
      refine ⟨?_, ?_⟩
      · rw [eX]
        exact la_D0_fr hD1 f6 e2 (z_Cn_mono N6 (by omega))
      · rw [(z_I_fr hD1.1.1 f6 (show 457 < 492 by decide)).1, (z_I_fr hD1.1.1 f6 (show 459 < 492 by decide)).1, (z_I_fr hD1.1.1 f6 (show 462 < 492 by decide)).1]
        exact eA5
    exact ⟨fun hc => absurd rfl hc, fun _ => ⟨fun hc => absurd hc (by decide), fun _ => ⟨rfl, ⟨by omega, by omega⟩, 1, rfl, rfl, hD6⟩⟩⟩
end LACOPY
