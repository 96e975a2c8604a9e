/-! ACT: a bale is made, by hand and by the class -/
def la_Qa (H m hf ns : Nat) (Q : Nat → Nat → Nat) (pn nu : m_Rr) (od : Nat → Option Nat) (T1 : Nat → m_Rr) (K1 : Nat → Nat → Option Nat) (G s : Nat) : (Option Value ⊕ String) → q_H → Prop := fun o h' => ∃ y, o = .inl (some (.int y)) ∧ y = 1 ∧ la_D H m hf ns Q pn nu od T1 K1 G h' s
section LAMAKE
variable {g : q_G} {d mc ms H m hf ns oc G : Nat} {Q : Nat → Nat → Nat} {pn nu : m_Rr} {od : Nat → Option Nat} {T1 : Nat → m_Rr} {K1 : Nat → Nat → Option Nat} {h h0 h' : q_H} {s k n : Nat}
theorem la_nm {ls : List (Option Value)} (h : ∀ a : Nat, some (Value.ref a) ∈ ls → a < 471 ∨ 473 ≤ a) : ∀ i a, q_nth ls i = some (some (.ref a)) → a ∉ [471, 472] := by
  intro i a hi
  rw [q_nth_eq] at hi
  have h1 := h a (List.mem_of_getElem? hi)
  intro hm
  have hm : @Eq Nat a 471 ∨ @Eq Nat a 472 := by simpa using hm
  omega
/-- the class makes it: what it answers -/
theorem lc_fmake (h6 : H ≤ 6) (p5 : pn 3 = nI H) {i z r : Nat} (hi : i < H) (hz1 : 1 ≤ z) (hz9 : z ≤ 9) (hr : r ≤ 3) {bn ly pl sz ag rc ld lo lr li nr nd hk rw ro bn' ly' pl' sz' ag' rc' ld' lo' lr' li' nr' nd' hk' rw' ro' : m_Rr} {ok : Bool}
    (hM : f_X2_makeBale pn bn ly pl sz ag rc ld lo lr li nr nd hk rw ro (nI i) (nI z) (nI r) = some (ok, bn', ly', pl', sz', ag', rc', ld', lo', lr', li', nr', nd', hk', rw', ro')) {c : Nat} (hc : ok = true → c < 128 ∧ hk' i = nI c) :
    f_X12_make pn bn ly pl sz ag rc ld lo lr li nr nd hk rw ro (nI i) (nI z) (nI r) = some ((if ok = true then .inl (pl' c) else .inr "java/lang/IllegalStateException"), bn', ly', pl', sz', ag', rc', ld', lo', lr', li', nr', nd', hk', rw', ro') := by
  unfold f_X12_make
  rw [lc_chk h6 p5 hi, Option.bind_some]
  show (if nI z < 1 then _ else _) = _
  rw [if_neg (show ¬ nI z < 1 from m_nlt (b := 1) hz1 (by omega)), if_neg (show ¬ (9 : Int32) < nI z from m_nlt (a := 9) hz9 (by decide)), if_neg (nI_pos (by omega)), if_pos (show nI r ≤ 3 from nI_le (b := 3) hr (by decide)), hM, Option.bind_some]
  cases ok with
  | true =>
    obtain ⟨c8, hc⟩ := hc rfl
    dsimp only
    rw [if_pos (show ¬ q_bz true = 0 by decide), m_held (by omega), Option.bind_some, hc, m_place c8, Option.bind_some]
    rfl
  | false =>
    rw [if_neg (show ¬ ¬ q_bz false = 0 from fun hh => hh rfl)]
    rfl
theorem la_aMake (hd : 20 ≤ d) (hd2 : d < 2048) (hT : la_St H m hf ns oc Q pn nu od T1 K1) (hD : la_D H m hf ns Q pn nu od T1 K1 G h s) (hG : G < 2 ^ 29) {i z r : Nat} (hi : i < H) (hz1 : 1 ≤ z) (hz9 : z ≤ 9) (hr : r ≤ 3) (hk : k + 104 ≤ mc) (hn : n + 12500 ≤ ms) :
    q_cI g m_X14_make [] d mc ms [.ref s, .int (nI i), .int (nI z), .int (nI r)] h k n True (fun k' n' y h4 => q_K g m_L_act (tableOf la_hh) d mc ms h0 [471, 472] (la_Qa H m hf ns Q pn nu od T1 K1 (G + 1) s) k' n' (52, [none, some (.ref s), none, some (.int (nI i)), none, none, some (.int y), none, none], [.int (nI r), .int (nI z), .int (nI i), .ref 400], h4)) := by
  obtain ⟨hD0, hA⟩ := hD
  obtain ⟨⟨c1, c2⟩, pl, rows, hRB, hN⟩ := id hD0
  obtain ⟨⟨H0, H6⟩, ⟨hf32, hm64⟩, ⟨mp, hP⟩, -⟩ := id hT
  obtain ⟨hL, Y, ν, hl, ll, hkL, hR, hB⟩ := id hRB
  have hR : la_m H m hf hL h _ _ _ _ _ _ _ _ := hR
  have hB : z_B h s ν H m hf hL pn (q_I h 457) (q_I h 459) (q_I h 460) (q_I h 461) (q_I h 462) (q_I h 463) (q_I h 464) (q_I h 470) hl ll hkL := hB
  obtain ⟨o1, o2, o3, c, o4, o5, o6⟩ := z_OK_s hB.1
  obtain ⟨n1, n2⟩ := z_RB_len hR hB
  have hlen : hkL.length = H := hB.2.1.2.2.2.2.2.1.1
  obtain ⟨g0, p0, q0, t1, t2, t3, t4, t5, t6, t7⟩ := la_Ct hB hN
  have hr1 : 3 * 128 * hl.length ≤ 3 * 128 * 32 := Nat.mul_le_mul_left _ (by omega)
  refine q_cI_of (fun y h4 => z_mkR h h4 s c hl ll hkL m i (nI z) r y (z_copy (z_rp h) m (q_I h s 5) hl ll hkL (q_I h) (q_I h s 11))) (z_makeC (d := d - 1) (B := 128) (by omega) (by omega) hB.1 o4 (by omega) (show r < 65536 by omega) n2 (by omega) (by decide) rfl) (by omega) (q_lcle (by omega) hd2) (by omega) (by omega) trivial (fun y h4 hM => ?_)
  obtain ⟨ok, ν', hL', bn', ly', pl', sz', ag', rc', ld', lo', lr', li', nr', nd', hk', rw', ro', md', mq', mi', st', sh', sw', sp', ss', sr', sa', sd', hl', ll', hkL', y1, y2, y3, y4, y5, y6, y7, y8, y9⟩ := z_B_make hP hR hB o4 hi hz1 hz9 hr rfl hM (q_I h 467) (q_I h 468) (q_I h 469) (q_I h 472) (fun _ => 0) (fun _ => 0) (fun _ => 0)
  have f := z_fr_mkR hB.1 o4 hM
  have N4 := z_Cn_mkR hB.1 hN hM
  have eR : ∀ a, a < 492 → q_I h4 a = q_I h a := fun a ha => (z_I_fr c1 f ha).1
  obtain ⟨r0, g1, g2⟩ := lc_make hP hR hA t2 (by omega) (q_I h 467) (q_I h 468) (q_I h 469) (q_I h 472) hi hz1 hz9 hr
  rw [y1] at g1
  cases g1
  have hX : z_RB H m hf pn h4 s (bn', ly', pl', sz', ag', rc', ld', lo', lr', li', nr', nd', hk', rw', ro', q_I h4 490, q_I h4 491) := ⟨hL', (md', md', mq', mi', st', sh', sw', sp', ss', sr', sa', sd'), ν', hl', ll', hkL', y3, y8⟩
  have hD4 := la_D0_fr hD0 f hX N4
  have hD5 : la_D H m hf ns Q pn nu od T1 K1 (G + 1) (q_jI h4 [(457, bn'), (459, ly'), (460, pl'), (461, sz'), (462, ag'), (463, rc'), (464, ld'), (465, lo'), (466, lr'), (467, li'), (468, nr'), (469, nd'), (470, hk'), (471, rw'), (472, ro')]) s := ⟨la_D0_j rfl rfl hD4, g2⟩
  obtain ⟨p1, p2, p3, p4, p5, p6, p7⟩ := hP
  have hcx : ∃ cc, ok = true → cc < 128 ∧ hk' i = nI cc := by
    cases ok with
    | true => obtain ⟨cc, e1, e2, -⟩ := y5 rfl; exact ⟨cc, fun _ => ⟨e1, e2⟩⟩
    | false => exact ⟨0, fun h => by cases h⟩
  obtain ⟨cc, hcc⟩ := hcx
  have eM := lc_fmake H6 p6 hi hz1 hz9 hr y1 hcc
  rw [← pl.1, ← eR 402 (by decide), ← eR 457 (by decide), ← eR 459 (by decide), ← eR 460 (by decide), ← eR 461 (by decide), ← eR 462 (by decide), ← eR 463 (by decide), ← eR 464 (by decide), ← eR 465 (by decide), ← eR 466 (by decide), ← eR 467 (by decide), ← eR 468 (by decide), ← eR 469 (by decide), ← eR 470 (by decide), ← eR 471 (by decide), ← eR 472 (by decide)] at eM
  have hC4 := hD4.1
  refine k_callV (M2 := m_X12_make) (b := 400) (As := [.int (nI i), .int (nI z), .int (nI r)]) (rest := []) okB_L_act ok_X12_make rfl (Or.inl rfl) cv_X12_make (Nat.le_refl _) (hC4.1.2 400 (by decide)).1 (show vwCl[10]? = some _ from rfl) rfl (lq_make (d := d - 1) (by omega) hC4.1 hC4.2 eM) (by omega) (q_lcle (by omega) hd2) (by omega) (by omega) (Nat.le_of_ble_eq_true rfl) (fun _ h => h) (la_nm (fun a ha => ?_)) (fun _ hb => by cases hb) rfl (fun v h5 hq => ?_) (fun E h5 hq => ?_)
  · have ha : @Eq Nat a s := by simpa using ha
    exact Or.inr (by omega)
  · obtain ⟨q1, rfl⟩ := hq
    cases ok with
    | false => cases q1
    | true =>
      cases q1
      obtain ⟨c8, hci⟩ := hcc rfl
      have y9 : y = 1 := y9
      subst y9
      obtain ⟨x1, x2, x3, c', x4, x5, x6⟩ := z_OK_s y8.1
      have hlen' : hkL'.length = H := y8.2.1.2.2.2.2.2.1.1
      rcases y8.2.1.2.2.2.2.2.1.2 i hi with ⟨w1, -⟩ | ⟨b, b8, b0, w1, w2⟩
      · rw [hci] at w1; exact absurd w1 (m_nI_m1 (by omega))
      · obtain rfl : cc = b := (nI_eq (by omega) (by omega)).mp (hci.symm.trans w1)
        have hbm := z_YR_mem y8.2.1 y3.2.2.1 y3.2.2.2.1.2.1 b8 b0
        obtain ⟨⟨v1, v2⟩, v3⟩ := (y8.1.2.1 _ hbm).1
        have hpl : q_I h4 (ν' cc) 2 = pl' cc := (y8.2.1.2.2.2.1 cc b8 b0).2.2.1
        refine w_L_act_53 (by omega) ⟨⟨z_4 x2, x1⟩, c', x4, i, hkL'.length, rfl, ⟨z_4 x6.1.1, x6.2.1, by omega, x6.2.2.1⟩, ν' cc, x6.2.2.2 i _ w2, ⟨z_4 v1, v3⟩, fun hc => absurd ?_ hc, fun _ => ⟨fun hc => absurd hc (by decide), fun _ => ⟨rfl, ⟨by omega, by omega⟩, 1, rfl, rfl, hD5⟩⟩⟩
        exact ((congrFun (q_ws_hi v1 rfl) 2).trans hpl).symm
  · obtain ⟨q1, rfl⟩ := hq
    cases ok with
    | true => cases q1
    | false =>
      cases q1
      have y9 : y = 0 := y9
      subst y9
      exact la_catch 0 (by omega) (by decide) (by decide) (by decide) ⟨rfl, trivial⟩ (by omega) (by omega) ⟨1, rfl, rfl, hD5⟩
end LAMAKE
