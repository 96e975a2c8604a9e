/-! isSound: the class at rest is sound -/
section LCSOUND
variable {g : q_G} {d H m hf G : Nat} {h h1 h' : q_H}
/-- a call that leaves the heap as it is -/
theorem la_c {M2 : q_M} {d2 mc ms mc2 ms2 k n : Nat} {As : List Value} {C : Nat → Nat → Int32 → q_H → Prop} {v : Int32} (hC : q_Ct g M2 d2 mc2 ms2 [] As h (fun o h' => ∃ x, o = .inl (some (.int x)) ∧ x = v ∧ h' = h)) (hd : d2 + 1 ≤ d) (hl : 59 + 64 * d2 ≤ q_lc d) (hk : k + mc2 ≤ mc) (hn : n + ms2 ≤ ms) (hc : C (k + mc2) (n + ms2) v h) : q_cI g M2 [] d mc ms As h k n True C :=
  q_cI_of _ hC hd hl hk hn trivial (fun x h' hp => by rw [hp.1, hp.2]; exact hc)
/-- a call that looks -/
theorem la_cl {M2 : q_M} {d2 mc ms mc2 ms2 k n : Nat} {As : List Value} {C : Nat → Nat → Int32 → q_H → Prop} {v : Int32} (hC : q_Ct g M2 d2 mc2 ms2 [] As h (fun o h' => ∃ x, o = .inl (some (.int x)) ∧ x = v ∧ la_lk h h')) (hd : d2 + 1 ≤ d) (hl : 59 + 64 * d2 ≤ q_lc d) (hk : k + mc2 ≤ mc) (hn : n + ms2 ≤ ms) (hc : ∀ h', la_lk h h' → C (k + mc2) (n + ms2) v h') : q_cI g M2 [] d mc ms As h k n True C :=
  q_cI_of _ hC hd hl hk hn trivial (fun x h' hp => by rw [hp.1]; exact hc h' hp.2)
theorem la_O (hS : lc_S H m hf G h) : 400 ≤ 400 ∧ q_sh h 400 = (0, 10, 0) := ⟨Nat.le_refl _, (hS.1.1.2 400 (by decide)).1⟩
/-- what a hook holds -/
theorem lc_hook {hL : List Nat} {st sh sw sp ss sr sa sd : m_Rr} (hR : la_m H m hf hL h st sh sw sp ss sr sa sd) {i : Nat} (hi : i < H) : q_I h 470 i = -1 ∨ ∃ b, b < 128 ∧ ¬ q_I h 459 b = 0 ∧ q_I h 470 i = nI b := (m_hkv hR hi).2.2
/-- a bale's numbers -/
theorem lc_bale {hL : List Nat} {st sh sw sp ss sr sa sd : m_Rr} (hR : la_m H m hf hL h st sh sw sp ss sr sa sd) (hA : lc_Ag (q_I h 457) (q_I h 459) (q_I h 462)) (hC : lc_Ct G (q_I h 457)) (hG : G < 2 ^ 30) {b : Nat} (b8 : b < 128) (b0 : ¬ q_I h 459 b = 0) :
    ∃ s p r a, (1 ≤ s ∧ s ≤ 9 ∧ q_I h 461 b = nI s) ∧ (p ≤ 64 ∧ q_I h 460 b = nI p) ∧ (r ≤ 3 ∧ q_I h 463 b = nI r) ∧ (a ≤ G ∧ q_I h 462 b = nI a) ∧ (q_I h 459 b = 1 → p + s ≤ m_tw (m_w (q_I h 461)) hL) ∧ (q_I h 459 b = 2 → s ≤ lc_ul (q_I h 459) (q_I h 461)) := by
  obtain ⟨s, s1, s2, s3⟩ := (hR.2.2.1 b b8).2 b0
  obtain ⟨r, r1, r2, -⟩ := hR.2.1.1 b b8
  obtain ⟨pp, p3, p1, p2⟩ := hA
  obtain ⟨a, a1, a2⟩ := p2 b b8 b0
  obtain ⟨g0, p0, q0, c1, c2, c3, c4, c5, c6, c7⟩ := hC
  have hpp : pp = p0 := (nI_eq (by omega) (by omega)).mp (p1.symm.trans c2)
  have hs : m_w (q_I h 461) b = s := m_w_nI s3 (by omega)
  obtain ⟨w1, w2, w3, w4⟩ := m_R_len hR.2.2.1 hR.2.2.2.1
  obtain ⟨hnd, hmem, hrw, hb7, hb8, htw, h64⟩ := hR.2.2.2.1
  have half : q_I h 459 b = 1 → ∃ p, p + s ≤ m_tw (m_w (q_I h 461)) hL ∧ q_I h 460 b = nI p := fun e => by
    obtain ⟨j, hj, ej⟩ := List.getElem_of_mem ((hmem b).mpr ⟨b8, e⟩)
    have hjb : hL[j]? = some b := by rw [List.getElem?_eq_getElem hj, ej]
    have e2 := m_tw_take (w := m_w (q_I h 461)) hjb
    have e3 := m_tw_all (w := m_w (q_I h 461)) (h := hL) (j + 1)
    refine ⟨m_tw (m_w (q_I h 461)) (hL.take j), by omega, ?_⟩
    rw [(hrw j b hjb).2]
    exact m_tot_tw (fun c hc => by
      obtain ⟨s', t1, t2, t3, t4⟩ := w1 c (List.mem_of_mem_take hc)
      rw [t3, t4])
  have loft : q_I h 459 b = 2 → ∃ p, p + s ≤ m ∧ q_I h 460 b = nI p := fun e => by
    obtain ⟨p, z, y1, y2, y3, y4, y5⟩ := hR.2.2.2.2.1.1.2.1 b (by omega) (((hR.1.1 b b8).1).trans e)
    have hz : z = s := (nI_eq (by have := hR.2.2.2.2.1.1.1; omega) (by omega)).mp (y2.symm.trans (((hR.1.1 b b8).2.2.1).trans s3))
    exact ⟨p, by omega, ((hR.1.1 b b8).2.1).symm.trans y1⟩
  have hm64 := hR.2.2.2.2.1.1.1
  rcases (hR.2.2.1 b b8).1 with e | e | e
  · exact absurd e b0
  · obtain ⟨p, y1, y2⟩ := half e
    exact ⟨s, p, r, a, ⟨s1, s2, s3⟩, ⟨by omega, y2⟩, ⟨r1, r2⟩, ⟨by omega, a2⟩, fun _ => y1, fun e2 => by rw [e] at e2; exact absurd e2 (by decide)⟩
  · obtain ⟨p, y1, y2⟩ := loft e
    refine ⟨s, p, r, a, ⟨s1, s2, s3⟩, ⟨by omega, y2⟩, ⟨r1, r2⟩, ⟨by omega, a2⟩, fun e2 => by rw [e] at e2; exact absurd e2 (by decide), fun _ => ?_⟩
    rw [← hs]
    exact (lc_usedL hR).2.2.2 b (lc_ll_mem.mpr ⟨b8, e⟩)
end LCSOUND
section LCSOUND2
variable {g : q_G} {d H m hf G : Nat} {h h1 h' : q_H}
theorem la_c1 {M2 : q_M} {mc ms mc2 ms2 k n : Nat} {As : List Value} {C : Nat → Nat → Int32 → q_H → Prop} {v : Int32} (hd : 1 ≤ d) (hd2 : d < 2048) (hC : q_Ct g M2 (d - 1) mc2 ms2 [] As h (fun o h' => ∃ x, o = .inl (some (.int x)) ∧ x = v ∧ h' = h)) (hk : k + mc2 ≤ mc) (hn : n + ms2 ≤ ms) (hc : C (k + mc2) (n + ms2) v h) : q_cI g M2 [] d mc ms As h k n True C :=
  la_c hC (by omega) (q_lcle (by omega) hd2) hk hn hc
theorem la_cl1 {M2 : q_M} {mc ms mc2 ms2 k n : Nat} {As : List Value} {C : Nat → Nat → Int32 → q_H → Prop} {v : Int32} (hd : 1 ≤ d) (hd2 : d < 2048) (hC : q_Ct g M2 (d - 1) mc2 ms2 [] As h (fun o h' => ∃ x, o = .inl (some (.int x)) ∧ x = v ∧ la_lk h h')) (hk : k + mc2 ≤ mc) (hn : n + ms2 ≤ ms) (hc : ∀ h', la_lk h h' → C (k + mc2) (n + ms2) v h') : q_cI g M2 [] d mc ms As h k n True C :=
  la_cl hC (by omega) (q_lcle (by omega) hd2) hk hn hc
theorem la_cD1 {M2 : q_M} {mc ms mc2 ms2 k n : Nat} {As : List Value} {C : Nat → Nat → UInt64 → q_H → Prop} {v : UInt64} (hd : 1 ≤ d) (hd2 : d < 2048) (hC : q_Ct g M2 (d - 1) mc2 ms2 [] As h (fun o h' => ∃ x, o = .inl (some (.double x)) ∧ x = v ∧ h' = h)) (hk : k + mc2 ≤ mc) (hn : n + ms2 ≤ ms) (hc : C (k + mc2) (n + ms2) v h) : q_cD g M2 [] d mc ms As h k n True C :=
  q_cD_of _ hC (by omega) (q_lcle (by omega) hd2) hk hn trivial (fun x h' hp => by rw [hp.1, hp.2]; exact hc)
theorem lc_u1 {hL : List Nat} {st sh sw sp ss sr sa sd : m_Rr} (hR : la_m H m hf hL h st sh sw sp ss sr sa sd) : q_I h 457 8 = nI (m_tw (m_w (q_I h 461)) hL) ∧ m_tw (m_w (q_I h 461)) hL ≤ hf ∧ hL.length ≤ m_tw (m_w (q_I h 461)) hL :=
  ⟨(m_usedH hR).2.1, (m_usedH hR).2.2.1, (m_R_len hR.2.2.1 hR.2.2.2.1).2.1⟩
theorem lc_ul64 {hL : List Nat} {st sh sw sp ss sr sa sd : m_Rr} (hR : la_m H m hf hL h st sh sw sp ss sr sa sd) : lc_ul (q_I h 459) (q_I h 461) ≤ 64 := by
  have hu := (lc_usedL hR).1
  have e := m_usedC hR.2.2.2.2.1.1.1 hR.2.2.2.2.1.2.1 (lr := q_I h 466)
  obtain ⟨j, j1, j2⟩ := m_sm_c1 (p := fun q => ¬ q_I h 466 q = -1) m
  rw [e, j2] at hu
  have h1 := (nI_eq (by have := hR.2.2.2.2.1.1.1; omega) (by have := (lc_usedL hR).2.2.1; omega)).mp (Option.some.inj hu)
  have := hR.2.2.2.2.1.1.1
  omega
theorem lc_nbI {hL : List Nat} {st sh sw sp ss sr sa sd : m_Rr} (hR : la_m H m hf hL h st sh sw sp ss sr sa sd) : q_I h 457 7 + q_I h 465 2 = nI (lc_nb hL (q_I h 459)) := by rw [lc_b7 hR, lc_lo2 hR, nI_add]; rfl
set_option maxHeartbeats 1000000 in
theorem la_sound (hd : 20 ≤ d) (hd2 : d < 2048) (hS : lc_S H m hf G h) (hG : G < 2 ^ 30) : q_Ct g m_L_isSound d 150 900 [] [.ref 400] h (fun o h' => ∃ x, o = .inl (some (.int x)) ∧ x = 1 ∧ la_lk h h') := by
  have hO := la_O hS
  obtain ⟨-, ⟨⟨H0, H6⟩, hf32, hm64⟩, -, ⟨hL, st, sh, sw, sp, ss, sr, sa, sd, hR⟩, hA, hC⟩ := id hS
  obtain ⟨u1, u2, u3⟩ := lc_u1 hR
  have d1 : 1 ≤ d := by omega
  have hu64 := lc_ul64 hR
  obtain ⟨v1, v2, v3, v4⟩ := lc_usedL hR
  have hnb := lc_nb_128 hR
  have hnbI := lc_nbI hR
  have hlo := lc_lo2 hR
  have hb7 := lc_b7 hR
  have hnbd : lc_nb hL (q_I h 459) = hL.length + (lc_ll (q_I h 459)).length := rfl
  generalize hU : m_tw (m_w (q_I h 461)) hL = U at u1 u2 u3
  generalize hV : lc_ul (q_I h 459) (q_I h 461) = V at hu64 v1 v2 v3 v4
  obtain ⟨g0, p0, q0, c1, c2, c3, c4, c5, c6, c7⟩ := id hC
  refine q_CtK ok_L_isSound (by omega) (Nat.le_of_ble_eq_true rfl) ?_ _ rfl rfl
  have key : ∀ n i kk nn, i + n = H → kk ≤ 25 * i → nn ≤ 150 * i → q_K g m_L_isSound [] d 150 900 h [] (fun o h' => ∃ x, o = .inl (some (.int x)) ∧ x = 1 ∧ la_lk h h') kk nn (2, [some (.ref 400), some (.int (nI i))], [], h) := by
    intro n
    induction n with
    | zero =>
      intro i kk nn hi hk hn
      obtain rfl : i = H := by omega
      refine w_L_isSound_2 (by omega) ⟨hO, la_c1 d1 hd2 (lk_hooks (by omega) hS) (by omega) (by omega) ⟨fun _ => ?_, fun hc => absurd (nI_le (Nat.le_refl _) (by omega)) hc⟩⟩
      refine ⟨hO, la_c1 d1 hd2 (lk_usedPlaces (by omega) hS) (by omega) (by omega) ⟨hO, la_c1 d1 hd2 (lk_placesOfHalf (by omega) hS) (by omega) (by omega) ⟨fun hc => absurd (by rw [u1] at hc; exact hc) (m_nlt u2 (by omega)), fun _ => ?_⟩⟩⟩
      refine ⟨hO, la_c1 d1 hd2 (lk_balesInLoft (by omega) hS) (by omega) (by omega) ⟨hO, la_c1 d1 hd2 (lk_usedInLoft (by omega) hS) (by omega) (by omega) ⟨fun hc => absurd (by rw [hlo, hV] at hc; exact hc) (m_nlt v2 (by omega)), fun _ => ?_⟩⟩⟩
      refine ⟨hO, la_c1 d1 hd2 (lk_bales (by omega) hS) (by omega) (by omega) ⟨hO, la_c1 d1 hd2 (lk_balesInLoft (by omega) hS) (by omega) (by omega) ⟨hO, la_c1 d1 hd2 (lk_usedPlaces (by omega) hS) (by omega) (by omega) ⟨fun hc => absurd (by rw [u1, hb7, Int32.add_sub_cancel] at hc; exact hc) (m_nlt u3 (by omega)), fun _ => ?_⟩⟩⟩⟩
      refine ⟨hO, la_cl1 d1 hd2 (lk_useless (by omega) hS hR) (by omega) (by omega) (fun h2 e2 => ⟨fun hc => absurd hc (nI_pos (by omega)), fun _ => ?_⟩)⟩
      have hS2 := lc_S_lk e2 hS
      have hR2 := la_m_lk e2 hR
      refine ⟨la_O hS2, la_cl1 d1 hd2 (lk_useless (by omega) hS2 hR2) (by omega) (by omega) (fun h3 e3 => ?_)⟩
      have e03 := la_lk_t e2 e3
      have hS3 := lc_S_lk e03 hS
      have hR3 := la_m_lk e03 hR
      have hO3 := la_O hS3
      have r2 := e2.2.2.2.2.2
      have r3 := e03.2.2.2.2.2
      refine ⟨hO3, la_c1 d1 hd2 (lk_bales (by omega) hS3) (by omega) (by omega) ⟨fun hc => absurd (by rw [lc_nbI hR3, r3 459 rfl, r2 459 rfl] at hc; exact hc) (m_nlt (Nat.sub_le _ _) (by omega)), fun _ => ?_⟩⟩
      refine ⟨hO3, la_c1 d1 hd2 (lk_workingHalf (by omega) hS3) (by omega) (by omega) ⟨hO3, la_c1 d1 hd2 (lk_copyings (by omega) hS3) (by omega) (by omega) ⟨by decide, fun hc => absurd ?_ hc, fun _ => ?_⟩⟩⟩
      · rw [r3 457 rfl, c2, c5, show (2 : Int32) = nI 2 from rfl, pk_rem (by omega) (by decide) (by decide)]
      refine ⟨hO3, la_c1 d1 hd2 (lk_stepsRefused (by omega) hS3) (by omega) (by omega) ⟨hO3, la_c1 d1 hd2 (lk_stepsGoneBy (by omega) hS3) (by omega) (by omega) ⟨fun hc => absurd (by rw [r3 457 rfl, c1, c3] at hc; exact hc) (m_nlt c4 (by omega)), fun _ => ?_⟩⟩⟩
      have u13 : q_I h3 457 8 = nI U := by rw [r3 457 rfl]; exact u1
      have V3 : lc_ul (q_I h3 459) (q_I h3 461) = V := by rw [r3 459 rfl, r3 461 rfl]; exact hV
      have nb3 : lc_nb hL (q_I h3 459) = lc_nb hL (q_I h 459) := by rw [r3 459 rfl]
      have fin : ∀ kk nn (y : UInt64), kk ≤ 150 → nn ≤ 900 → y = q_mean (U + V) (lc_nb hL (q_I h 459)) → q_K g m_L_isSound [] d 150 900 h [] (fun o h' => ∃ x, o = .inl (some (.int x)) ∧ x = 1 ∧ la_lk h h') kk nn (121, [none, none], [.double y, .double (q_mean (U + V) (lc_nb hL (q_I h 459)))], h3) := fun kk nn y hkk hnn hy => by
        rw [hy]
        refine k_o_dcmp okB_L_isSound rfl ?_
        rw [q_dc (by omega) hnb]
        exact w_L_isSound_122 (by omega) ⟨fun hc => absurd rfl hc, fun _ => ⟨rfl, ⟨hkk, hnn⟩, 1, rfl, rfl, e03⟩⟩
      have hmn := lk_mean (g := g) (d := d - 1) (by omega) hS3 hR3 u13 (by omega)
      rw [V3, nb3] at hmn
      refine ⟨hO3, la_cD1 d1 hd2 hmn (by omega) (by omega) ⟨hO3, la_c1 d1 hd2 (lk_bales (by omega) hS3) (by omega) (by omega) ⟨fun hc => ?_, fun hc => ?_⟩⟩⟩
      · rw [lc_nbI hR3, nb3] at hc
        have hc0 : lc_nb hL (q_I h 459) ≠ 0 := fun e => hc (by rw [e]; rfl)
        refine ⟨hO3, la_c1 d1 hd2 (lk_usedPlaces (by omega) hS3) (by omega) (by omega) ⟨hO3, la_c1 d1 hd2 (lk_usedInLoft (by omega) hS3) (by omega) (by omega) ⟨hO3, la_c1 d1 hd2 (lk_bales (by omega) hS3) (by omega) (by omega) ?_⟩⟩⟩
        rw [u13, V3, nI_add, lc_nbI hR3, nb3]
        exact ⟨q_dv (by omega) (by omega) hc0, fin _ _ _ (by omega) (by omega) (by unfold q_mean; rw [if_neg hc0])⟩
      · rw [lc_nbI hR3, nb3] at hc
        have hc0 : lc_nb hL (q_I h 459) = 0 := (q_nI0 (by omega)).mp hc
        exact fin _ _ _ (by omega) (by omega) (by unfold q_mean; rw [if_pos hc0])
    | succ n ih =>
      intro i kk nn hi hk hn
      have hiH : i < H := by omega
      refine w_L_isSound_2 (by omega) ⟨hO, la_c1 d1 hd2 (lk_hooks (by omega) hS) (by omega) (by omega) ⟨fun hc => absurd hc (nI_ge hiH (by omega)), fun _ => ?_⟩⟩
      refine ⟨hO, la_c1 d1 hd2 (lk_holds (by omega) hS hiH) (by omega) (by omega) ?_⟩
      rcases lc_hook hR hiH with hh | ⟨b, b8, b0, hb⟩
      · rw [hh]
        refine ⟨fun hc => absurd rfl hc, fun _ => ?_⟩
        rw [nI_1]
        exact ih (i + 1) _ _ (by omega) (by omega) (by omega)
      · have hne : ¬ q_I h 470 i = -1 := by rw [hb]; exact m_nI_m1 (by omega)
        rw [decide_eq_true hne]
        refine ⟨fun _ => ?_, fun hc => absurd hc (by decide)⟩
        obtain ⟨s, p, r, a, ⟨s1, s2, s3⟩, ⟨p1, p2⟩, ⟨r1, r2⟩, ⟨a1, a2⟩, e1, e2⟩ := lc_bale hR hA hC hG b8 b0
        rw [hU] at e1
        rw [hV] at e2
        have hsz := lk_sizeOf (g := g) (d := d - 1) (by omega) hS hiH hb b8
        have hpl := lk_placeOf (g := g) (d := d - 1) (by omega) hS hiH hb b8
        have hrc := lk_ropesOf (g := g) (d := d - 1) (by omega) hS hiH hb b8
        have hag := lk_ageOf (g := g) (d := d - 1) (by omega) hS hiH hb b8
        have hly := lk_isInLoft (g := g) (d := d - 1) (by omega) hS hiH hb b8
        have hul := lk_usedInLoft (g := g) (d := d - 1) (by omega) hS
        rw [s3] at hsz
        rw [p2] at hpl
        rw [r2] at hrc
        rw [a2] at hag
        rw [hV] at hul
        have nx : ∀ kk nn, kk ≤ 25 * (i + 1) → nn ≤ 150 * (i + 1) → q_K g m_L_isSound [] d 150 900 h [] (fun o h' => ∃ x, o = .inl (some (.int x)) ∧ x = 1 ∧ la_lk h h') kk nn (2, [some (.ref 400), some (.int (nI i + 1))], [], h) := fun kk nn h1 h2 => by
          rw [nI_1]; exact ih (i + 1) _ _ (by omega) h1 h2
        refine ⟨hO, la_c1 d1 hd2 hsz (by omega) (by omega) ⟨fun hc => absurd hc (m_nlt (b := 1) s1 (by omega)), fun _ => ⟨hO, la_c1 d1 hd2 hsz (by omega) (by omega) ⟨fun hc => absurd hc (m_nlt (a := 9) s2 (by decide)), fun _ => ⟨hO, la_c1 d1 hd2 hpl (by omega) (by omega) ⟨fun hc => absurd hc (nI_pos (by omega)), fun _ => ⟨hO, la_c1 d1 hd2 hly (by omega) (by omega) ?_⟩⟩⟩⟩⟩⟩⟩
        rcases (hR.2.2.1 b b8).1 with e | e | e
        · exact absurd e b0
        · have hf2 : decide (q_I h 459 b = 2) = false := decide_eq_false (by rw [e]; decide)
          rw [hf2] at hly ⊢
          refine ⟨fun hc => absurd rfl hc, fun _ => ⟨hO, la_c1 d1 hd2 hpl (by omega) (by omega) ⟨hO, la_c1 d1 hd2 hsz (by omega) (by omega) ⟨hO, la_c1 d1 hd2 (lk_usedPlaces (by omega) hS) (by omega) (by omega) ⟨fun hc => absurd ?_ (m_nlt (e1 e) (by omega)), fun _ => ?_⟩⟩⟩⟩⟩
          · rw [u1, nI_add] at hc; exact hc
          refine ⟨hO, la_c1 d1 hd2 hrc (by omega) (by omega) ⟨fun hc => absurd hc (nI_pos (by omega)), fun _ => ⟨hO, la_c1 d1 hd2 hrc (by omega) (by omega) ⟨fun hc => absurd hc (m_nlt (a := 3) r1 (by decide)), fun _ => ⟨hO, la_c1 d1 hd2 hag (by omega) (by omega) ⟨fun hc => absurd hc (nI_pos (by omega)), fun _ => ⟨hO, la_c1 d1 hd2 hly (by omega) (by omega) ⟨fun _ => nx _ _ (by omega) (by omega), fun hc => absurd rfl hc⟩⟩⟩⟩⟩⟩⟩⟩
        · have hf2 : decide (q_I h 459 b = 2) = true := decide_eq_true e
          rw [hf2] at hly ⊢
          refine ⟨fun _ => ?_, fun hc => absurd hc (by decide)⟩
          exact ⟨hO, la_c1 d1 hd2 hrc (by omega) (by omega) ⟨fun hc => absurd hc (nI_pos (by omega)), fun _ => ⟨hO, la_c1 d1 hd2 hrc (by omega) (by omega) ⟨fun hc => absurd hc (m_nlt (a := 3) r1 (by decide)), fun _ => ⟨hO, la_c1 d1 hd2 hag (by omega) (by omega) ⟨fun hc => absurd hc (nI_pos (by omega)), fun _ => ⟨hO, la_c1 d1 hd2 hly (by omega) (by omega) ⟨fun hc => absurd hc (by decide), fun _ => ⟨hO, la_c1 d1 hd2 hul (by omega) (by omega) ⟨hO, la_c1 d1 hd2 hsz (by omega) (by omega) ⟨fun _ => nx _ _ (by omega) (by omega), fun hc => absurd (nI_le (e2 e) (by omega)) hc⟩⟩⟩⟩⟩⟩⟩⟩⟩⟩⟩
  exact w_L_isSound_0 (by omega) (key H 0 0 0 (by omega) (by omega) (by omega))
end LCSOUND2
