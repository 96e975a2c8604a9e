/-! ACT: tie, follow, drop -/
/-- how many of the first j ropes lead anywhere -/
def lc_cnt (ld : m_Rr) (b : Nat) : Nat → Nat
  | 0 => 0
  | j + 1 => lc_cnt ld b j + (if ld (b * 3 + j) = -1 then 0 else 1)
section LATIES
variable {g : q_G} {d mc ms H m hf ns oc G : Nat} {Q : Nat → Nat → Nat} {pn nu : m_Rr} {od : Nat → Option Nat} {T1 : Nat → m_Rr} {K1 : Nat → Nat → Option Nat} {h h0 h' : q_H} {s k n : Nat}
theorem lc_lcL {rc ld : m_Rr} {b kk : Nat} (hb : b < 128) (hk : rc b = nI kk) (hk3 : kk ≤ 3) : ∀ (n j fu : Nat), j + n = kk → n < fu → f_X1_leadCount_L4 rc ld (nI b) fu (nI (lc_cnt ld b j)) (nI j) = some (nI (lc_cnt ld b kk)) := by
  intro n
  induction n with
  | zero =>
    intro j fu hj hfu
    obtain rfl : j = kk := by omega
    obtain ⟨fu, rfl⟩ : ∃ z, fu = z + 1 := ⟨fu - 1, by omega⟩
    rw [f_X1_leadCount_L4, m_ropes hb, Option.bind_some, hk, if_pos (nI_le (Nat.le_refl _) (by omega))]
  | succ n ih =>
    intro j fu hj hfu
    obtain ⟨fu, rfl⟩ : ∃ z, fu = z + 1 := ⟨fu - 1, by omega⟩
    have h1 := ih (j + 1) fu (by omega) (by omega)
    rw [f_X1_leadCount_L4, m_ropes hb, Option.bind_some, hk, if_neg (nI_ge (by omega) (by omega)), m_lead hb (by omega) hk hk3, Option.bind_some, if_pos (show j < kk by omega), nI_1]
    rw [show lc_cnt ld b (j + 1) = lc_cnt ld b j + (if ld (b * 3 + j) = -1 then 0 else 1) from rfl] at h1
    by_cases e : ld (b * 3 + j) = -1
    · rw [if_pos e] at h1 ⊢
      exact h1
    · rw [if_neg e] at h1 ⊢
      rw [nI_1]; exact h1
theorem lc_cnt_le {ld : m_Rr} {b : Nat} : ∀ j, lc_cnt ld b j ≤ j
  | 0 => Nat.le_refl _
  | j + 1 => by
    have := lc_cnt_le (ld := ld) (b := b) j
    unfold lc_cnt
    split <;> omega
theorem la_aTie (hd : 20 ≤ d) (hd2 : d < 2048) (hT : la_St H m hf ns oc Q pn nu od T1 K1) (hD : la_D H m hf ns Q pn nu od T1 K1 G h s) {i t r : Nat} (hi : i < H) (ht : t < H) (hk : k + 104 ≤ mc) (hn : n + 12500 ≤ ms) :
    q_cI g m_X14_tie [] d mc ms [.ref s, .int (nI i), .int (nI r), .int (nI t)] h k n True (fun k' n' y h4 => q_K g m_L_act (tableOf la_hh) d mc ms h0 [471, 472] (la_Qa H m hf ns Q pn nu od T1 K1 G s) k' n' (75, [some (.ref 400), some (.ref s), none, some (.int (nI i)), some (.int (nI t)), some (.int (nI r)), some (.int y), some (.int 0), some (.int 0)], [], h4)) := by
  obtain ⟨hD0, hA⟩ := hD
  obtain ⟨⟨c1, c2⟩, pl, rows, hRB, hN⟩ := id hD0
  obtain ⟨⟨H0, H6⟩, ⟨hf32, hm64⟩, ⟨mp, hP⟩, -⟩ := id hT
  obtain ⟨hL, Y, ν, hl, ll, hkL, hR, hB⟩ := id hRB
  have hR : la_m H m hf hL h _ _ _ _ _ _ _ _ := hR
  have hB : z_B h s ν H m hf hL pn (q_I h 457) (q_I h 459) (q_I h 460) (q_I h 461) (q_I h 462) (q_I h 463) (q_I h 464) (q_I h 470) hl ll hkL := hB
  obtain ⟨o1, o2, o3, c, o4, o5, o6⟩ := z_OK_s hB.1
  have hlen : hkL.length = H := hB.2.1.2.2.2.2.2.1.1
  obtain ⟨p1, p2, p3, p4, p5, p6, p7⟩ := hP
  refine q_cI_of _ (z_tieC (d := d - 1) (i := i) (t := t) (r := nI r) (by omega) (by omega) hB.1.1 hB.1.2.1 hB.1.2.2.2.1 (by omega) (by omega)) (by omega) (q_lcle (by omega) hd2) (by omega) (by omega) trivial (fun y h4 hM => ?_)
  obtain ⟨ok, ld', sd', y1, y2, y3, y5, y8, y9⟩ := z_B_tie hR hB hi ht (nI r) hM
  have f := z_fr_tie hB.1 hM
  have N4 : z_Cn h4 s G := z_Cn_s hN (congrFun (z_I_tie hM) s)
  have eR : ∀ a, a < 492 → q_I h4 a = q_I h a := fun a ha => (z_I_fr c1 f ha).1
  have hX : z_RB H m hf pn h4 s (q_I h 457, q_I h 459, q_I h 460, q_I h 461, q_I h 462, q_I h 463, ld', q_I h 465, q_I h 466, q_I h 467, q_I h 468, q_I h 469, q_I h 470, q_I h 471, q_I h 472, q_I h 490, q_I h 491) := ⟨hL, (Y.1, Y.2.1, Y.2.2.1, Y.2.2.2.1, Y.2.2.2.2.1, Y.2.2.2.2.2.1, Y.2.2.2.2.2.2.1, Y.2.2.2.2.2.2.2.1, Y.2.2.2.2.2.2.2.2.1, Y.2.2.2.2.2.2.2.2.2.1, Y.2.2.2.2.2.2.2.2.2.2.1, sd'), ν, hl, ll, hkL, y3, y8⟩
  rw [← eR 457 (by decide), ← eR 459 (by decide), ← eR 460 (by decide), ← eR 461 (by decide), ← eR 462 (by decide), ← eR 463 (by decide), ← eR 465 (by decide), ← eR 466 (by decide), ← eR 467 (by decide), ← eR 468 (by decide), ← eR 469 (by decide), ← eR 470 (by decide), ← eR 471 (by decide), ← eR 472 (by decide), ← eR 490 (by decide), ← eR 491 (by decide)] at hX
  have hD4 := la_D0_fr hD0 f hX N4
  have hD5 : la_D H m hf ns Q pn nu od T1 K1 G (q_jI h4 [(464, ld')]) s := ⟨la_D0_j rfl rfl hD4, by
    show lc_Ag (q_I h4 457) (q_I h4 459) (q_I h4 462)
    rw [eR 457 (by decide), eR 459 (by decide), eR 462 (by decide)]
    exact hA⟩
  have hC4 := hD4.1
  have hSim : 400 ≤ s ∧ q_sh h4 s = (0, 12, 0) := ⟨z_4 o2, (z_OK_s y8.1).1⟩
  -- the class's answer
  have hcx : ∃ b kk, ok = true → (b < 128 ∧ ¬ q_I h 459 b = 0 ∧ q_I h 470 i = nI b) ∧ (kk ≤ 3 ∧ q_I h 463 b = nI kk) := by
    cases ok with
    | true =>
      obtain ⟨b, b8, hb, -⟩ := y5 rfl
      obtain ⟨kk, k1, k2, -⟩ := hR.2.1.1 b b8
      rcases lc_hook hR hi with e | ⟨b', b1, b2, b3⟩
      · rw [hb] at e; exact absurd e (m_nI_m1 (by omega))
      · obtain rfl : b = b' := (nI_eq (by omega) (by omega)).mp (hb.symm.trans b3)
        exact ⟨b, kk, fun _ => ⟨⟨b8, b2, hb⟩, k1, k2⟩⟩
    | false => exact ⟨0, 0, fun h => by cases h⟩
  obtain ⟨b, kk, hcc⟩ := hcx
  have eM : f_X12_tie pn (q_I h 463) (q_I h 464) (q_I h 470) (nI i) (nI r) (nI t) = some ((if ok = true then .inl (nI (lc_cnt ld' b kk)) else .inr "java/lang/IllegalStateException"), ld') := by
    unfold f_X12_tie
    rw [lc_chk H6 p6 hi, Option.bind_some]
    show ((f_X12_checkHook pn (nI t)).bind _) = _
    rw [lc_chk H6 p6 ht, Option.bind_some]
    show ((f_X2_tieRope _ _ _ (nI i) (nI r) (nI t)).bind _) = _
    rw [y1, Option.bind_some]
    cases ok with
    | true =>
      obtain ⟨⟨b8, b0, hb⟩, k3, hk⟩ := hcc rfl
      dsimp only
      rw [if_pos (show ¬ q_bz true = 0 by decide), m_held (by omega), Option.bind_some, hb]
      unfold f_X1_leadCount
      have := lc_lcL (ld := ld') b8 hk k3 kk 0 4096 (by omega) (by omega)
      have this : f_X1_leadCount_L4 (q_I h 463) ld' (nI b) 4096 0 0 = some (nI (lc_cnt ld' b kk)) := this
      rw [this]; rfl
    | false =>
      rw [if_neg (show ¬ ¬ q_bz false = 0 from fun hh => hh rfl)]
      rfl
  rw [← pl.1, ← eR 402 (by decide), ← eR 463 (by decide), ← eR 464 (by decide), ← eR 470 (by decide)] at eM
  have call : ∀ (k1 n1 : Nat) (v7 : Int32), k1 + 3 ≤ mc → n1 + 18 ≤ ms → (ok = true → v7 = nI (lc_cnt ld' b kk)) → q_K g m_L_act (tableOf la_hh) d mc ms h0 [471, 472] (la_Qa H m hf ns Q pn nu od T1 K1 G s) k1 n1 (105, [none, none, none, none, none, none, some (.int y), some (.int v7), none], [.int (nI t), .int (nI r), .int (nI i), .ref 400], h4) := fun k1 n1 v7 hk1 hn1 hv => by
    refine k_callV (M2 := m_X12_tie) (b := 400) (As := [.int (nI i), .int (nI r), .int (nI t)]) (rest := []) okB_L_act ok_X12_tie rfl (Or.inl rfl) cv_X12_tie (Nat.le_refl _) (hC4.1.2 400 (by decide)).1 (show vwCl[10]? = some _ from rfl) rfl (lq_tie (d := d - 1) (by omega) hC4.1 hC4.2 eM) (by omega) (q_lcle (by omega) hd2) (by omega) (by omega) (Nat.le_of_ble_eq_true rfl) (fun x hx => absurd hx List.not_mem_nil) (fun _ _ _ => List.not_mem_nil) (fun _ _ => List.not_mem_nil) rfl (fun v h5 hq => ?_) (fun E h5 hq => ?_)
    · obtain ⟨q1, rfl⟩ := hq
      cases ok with
      | false => cases q1
      | true =>
        cases q1
        have y9 : y = 1 := y9
        subst y9
        exact w_L_act_106 (by omega) ⟨fun hc => absurd (hv rfl).symm hc, fun _ => ⟨fun hc => absurd hc (by decide), fun _ => ⟨rfl, ⟨by omega, by omega⟩, 1, rfl, rfl, hD5⟩⟩⟩
    · obtain ⟨q1, rfl⟩ := hq
      cases ok with
      | true => cases q1
      | false =>
        cases q1
        have y9 : y = 0 := y9
        subst y9
        exact la_catch 1 (by omega) (by decide) (by decide) (by decide) ⟨rfl, trivial⟩ (by omega) (by omega) ⟨1, rfl, rfl, hD5⟩
  cases ok with
  | false =>
    have y9 : y = 0 := y9
    subst y9
    refine w_L_act_75 (by omega) ⟨fun _ => call _ _ 0 (by omega) (by omega) (fun h => by cases h), fun hc => absurd rfl hc⟩
  | true =>
    have y9 : y = 1 := y9
    subst y9
    obtain ⟨⟨b8, b0, hb⟩, k3, hk⟩ := hcc rfl
    obtain ⟨x1, x2, x3, c', x4, x5, x6⟩ := z_OK_s y8.1
    have hlen' : hkL.length = H := hlen
    have hcell : hkL[i]? = some (some (ν b)) := by
      rcases y8.2.1.2.2.2.2.2.1.2 i hi with ⟨w1, -⟩ | ⟨b', b8', b0', w1, w2⟩
      · rw [hb] at w1; exact absurd w1 (m_nI_m1 (by omega))
      · obtain rfl : b = b' := (nI_eq (by omega) (by omega)).mp (hb.symm.trans w1)
        exact w2
    have hbm := z_YR_mem y8.2.1 y3.2.2.1 y3.2.2.2.1.2.1 b8 b0
    obtain ⟨⟨⟨v1, v2⟩, v3⟩, ⟨r1, r2, r3, r4⟩, -⟩ := y8.1.2.1 _ hbm
    obtain ⟨hrl, hrc⟩ := z_Yr_k y8.2.1.2.2.2.2.1 b8 b0 k3 hk
    rw [z_rp_len] at hrl
    have hrow : 400 ≤ c' ∧ q_sh h4 c' = (3, 6, hkL.length) ∧ i < hkL.length ∧ q_s16 hkL.length := ⟨z_4 x6.1.1, x6.2.1, by omega, x6.2.2.1⟩
    have loop : ∀ (n1 j : Nat), j + n1 = kk → q_K g m_L_act (tableOf la_hh) d mc ms h0 [471, 472] (la_Qa H m hf ns Q pn nu od T1 K1 G s) (k + 0) (n + 0) (75, [some (.ref 400), some (.ref s), none, some (.int (nI i)), some (.int (nI t)), some (.int (nI r)), some (.int 1), some (.int (nI (lc_cnt ld' b j))), some (.int (nI j))], [], h4) := by
      intro n1
      induction n1 with
      | zero =>
        intro j hj
        obtain rfl : j = kk := by omega
        refine w_L_act_75 (by omega) ⟨fun hc => absurd hc (by decide), fun _ => ⟨hSim, c', x4, i, hkL.length, rfl, hrow, ν b, x6.2.2.2 i _ hcell, ⟨z_4 v1, v3⟩, z_ra h4 (ν b), r1, z_rl h4 (ν b), ⟨z_4 r2.1, r3⟩, fun _ => call _ _ _ (by omega) (by omega) (fun _ => rfl), fun hc => absurd (nI_le (by omega) (by omega)) hc⟩⟩
      | succ n1 ih =>
        intro j hj
        have hjl : j < z_rl h4 (ν b) := by omega
        refine w_L_act_75 (by omega) ⟨fun hc => absurd hc (by decide), fun _ => ⟨hSim, c', x4, i, hkL.length, rfl, hrow, ν b, x6.2.2.2 i _ hcell, ⟨z_4 v1, v3⟩, z_ra h4 (ν b), r1, z_rl h4 (ν b), ⟨z_4 r2.1, r3⟩, fun hc => absurd hc (nI_ge hjl (by omega)), fun _ => ⟨hSim, c', x4, i, hkL.length, rfl, hrow, ν b, x6.2.2.2 i _ hcell, ⟨z_4 v1, v3⟩, z_ra h4 (ν b), r1, j, z_rl h4 (ν b), rfl, ⟨z_4 r2.1, r3, hjl, by show z_rl h4 (ν b) < 65536; omega⟩, fun b14 h14 => ?_, fun h14 => ?_⟩⟩⟩
        all_goals
          have h1 := ih (j + 1) (by omega)
          have hcj := hrc j (by omega)
          have hcr : (z_rp h4 (ν b))[j]? = some (q_R h4 (z_ra h4 (ν b)) j) := by
            unfold z_rp
            rw [List.getElem?_map, List.getElem?_range hjl]; rfl
          rw [hcr, h14] at hcj
          rw [nI_1]
          rw [show lc_cnt ld' b (j + 1) = lc_cnt ld' b j + (if ld' (b * 3 + j) = -1 then 0 else 1) from rfl] at h1
        · rcases hcj with ⟨-, e⟩ | ⟨b2, b28, -, e, -⟩
          · simp at e
          · rw [if_neg (show ¬ ld' (b * 3 + j) = -1 by rw [e]; exact m_nI_m1 (by omega))] at h1
            rw [nI_1]; exact h1
        · rcases hcj with ⟨e, -⟩ | ⟨b2, b28, -, -, e⟩
          · rw [if_pos e] at h1
            rw [Int32.add_zero]; exact h1
          · simp at e
    exact loop kk 0 (by omega)
end LATIES
