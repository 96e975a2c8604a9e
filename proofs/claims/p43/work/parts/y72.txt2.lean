/-! TEXTS MADE, two: room, bytes put, append -/
section TXTB
variable {g : q_G} {d : Nat} {h h1 h0 : q_H} {a b v n L N G : Nat} {l l2 : List Int32}
theorem tx_B_grow (hB : tx_B h0 h b L l) (v3 : q_R h b 0 = some v) (hG : L ≤ G) : tx_B h0 (q_pR (q_cpy (q_new h (1, 1, G)) (q_I h v) (q_nx h) 0 0 L) b 0 (some (q_nx h))) b G l := by
  obtain ⟨b0, b1, ⟨b2, b3⟩, b4, b5, b6, v', ⟨v1, v2⟩, v3', v4, v5, v6, v7⟩ := hB
  obtain rfl : v' = v := Option.some.inj (v3'.symm.trans v3)
  have hx : q_nx h0 ≤ q_nx h := b0.1
  have eI : ∀ a, a ≠ q_nx h → q_I (q_cpy (q_new h (1, 1, G)) (q_I h v') (q_nx h) 0 0 L) a = q_I h a := fun a ha => (tx_c_I ha).trans (tx_n_I ha)
  have eN : q_I (q_cpy (q_new h (1, 1, G)) (q_I h v') (q_nx h) 0 0 L) (q_nx h) = va_cpy (q_I h v') (fun _ => 0) 0 0 L := by rw [tx_c_Is, tx_n_I0]
  have hbn : b ≠ q_nx h := by omega
  refine ⟨z_ext_pR (z_ext_cpy (z_ext_trans b0 (z_ext_new _ _)) hx) b2 (fun c e => by cases e; exact Or.inr hx), b1, ⟨b2, Nat.lt_succ_of_lt b3⟩, (tx_n_sh hbn).trans b4, (congrFun (eI b hbn) 1).trans b5, (congrFun (eI b hbn) 3).trans b6, q_nx h, ⟨hx, Nat.lt_succ_self _⟩, z_R_s _ _ _ _, z_sh_new _ _, by omega, fun j hj => ?_, fun j hj => ?_⟩
  · show q_by (q_I (q_cpy (q_new h (1, 1, G)) (q_I h v') (q_nx h) 0 0 L) (q_nx h) j)
    rw [eN]
    by_cases hj2 : j < L
    · rw [pk_cpy_in (Nat.zero_le _) (by omega)]; exact v6 _ (by omega)
    · rw [pk_cpy_out (Or.inr (by omega))]; exact tx_by0 0 (by decide)
  · show q_I (q_cpy (q_new h (1, 1, G)) (q_I h v') (q_nx h) 0 0 L) (q_nx h) j = _
    rw [eN, pk_cpy_in (Nat.zero_le _) (by omega), show 0 + (j - 0) = j by omega]
    exact v7 j hj
theorem tx_S_grow (hs : q_sh h b = (0, 14, 0)) {f : Nat → Int32} {c : Nat} {o : Option Nat} (hS : tx_S h a l) : tx_S (q_pR (q_cpy (q_new h (1, 1, G)) f (q_nx h) 0 0 c) b 0 o) a l := by
  rcases hS with hS | ⟨⟨a1, a2⟩, a3, a4, v, v1, ⟨v2, v3⟩, v4, v5, v6⟩
  · exact Or.inl hS
  · have hab : a ≠ b := fun e => by rw [e, hs] at a3; cases a3
    have eI : ∀ a, a ≠ q_nx h → q_I (q_cpy (q_new h (1, 1, G)) f (q_nx h) 0 0 c) a = q_I h a := fun a ha => (tx_c_I ha).trans (tx_n_I ha)
    refine Or.inr ⟨⟨a1, Nat.lt_succ_of_lt a2⟩, (tx_n_sh (by omega)).trans a3, (congrFun (eI a (by omega)) 1).trans a4, v, ?_, ⟨v2, Nat.lt_succ_of_lt v3⟩, (tx_n_sh (by omega)).trans v4, v5, fun j hj => (congrFun (eI v (by omega)) j).trans (v6 j hj)⟩
    rw [z_R_a _ _ _ _ _ hab]
    show q_R (q_new h (1, 1, G)) a 0 = some v
    rw [tx_n_R (by omega)]
    exact v1
/-- signs put behind those there are -/
theorem tx_B_put (hB : tx_B h0 h b L l) (v3 : q_R h b 0 = some v) (hn : q_nx h1 = q_nx h) (hs : q_sh h1 = q_sh h) (hR : q_R h1 = q_R h) (he : z_ext h0 h1) (hI : ∀ a, a ≠ v → q_I h1 a = q_I h a) (hl : l.length + l2.length ≤ L)
    (r1 : ∀ j, j < l.length → q_I h1 v j = q_I h v j) (r2 : ∀ j, j < l2.length → q_I h1 v (l.length + j) = l2.getD j 0) (r3 : ∀ j, j < L → q_by (q_I h1 v j)) {x : Int32} (hx : x = nI (l.length + l2.length)) : tx_B h0 (q_pI h1 b 3 x) b L (l ++ l2) := by
  obtain ⟨b0, b1, ⟨b2, b3⟩, b4, b5, b6, v', ⟨v1, v2⟩, v3', v4, v5, v6, v7⟩ := hB
  obtain rfl : v' = v := Option.some.inj (v3'.symm.trans v3)
  have hbv : b ≠ v' := fun e => by rw [e, v4] at b4; cases b4
  refine ⟨z_ext_pI he b2, b1, ⟨b2, by show b < q_nx h1; omega⟩, (congrFun hs b).trans b4, ?_, ?_, v', ⟨v1, by show v' < q_nx h1; omega⟩, (congrFun (congrFun hR b) 0).trans v3, (congrFun hs v').trans v4, by rw [List.length_append]; exact hl, fun j hj => ?_, fun j hj => ?_⟩
  · rw [z_I_j _ _ _ _ _ (by decide), hI b hbv]; exact b5
  · rw [z_I_s, hx, List.length_append]
  · rw [z_I_a _ _ _ _ _ hbv.symm]; exact r3 j hj
  · rw [z_I_a _ _ _ _ _ hbv.symm]
    rw [List.length_append] at hj
    by_cases hj2 : j < l.length
    · rw [r1 j hj2, v7 j hj2, List.getD_eq_getElem?_getD, List.getD_eq_getElem?_getD, List.getElem?_append_left hj2]
    · have h9 := r2 (j - l.length) (by omega)
      rw [show l.length + (j - l.length) = j by omega] at h9
      rw [h9, List.getD_eq_getElem?_getD, List.getD_eq_getElem?_getD, List.getElem?_append_right (by omega)]
theorem tx_ens (hd : 3 ≤ d) (hd2 : d < 2048) (hB : tx_B h0 h b L l) (hL : L ≤ 20000) (hN : N ≤ 20000) :
    q_Ct g m_J5_ensureCapacityInternal_d00df d (if N ≤ L then 0 else 1) (if N ≤ L then 0 else tx_g L N) [] [.ref b, .int (nI N)] h (fun o h' => o = .inl none ∧ tx_B h0 h' b (tx_g L N) l ∧ (∀ a l2, tx_S h a l2 → tx_S h' a l2) ∧ tx_E h h') := by
  obtain ⟨b0, b1, ⟨b2, b3⟩, b4, b5, b6, v, ⟨v1, v2⟩, v3, v4, v5, v6, v7⟩ := id hB
  refine q_CtK ok_J5_ensureCapacityInternal_d00df (by omega) (Nat.le_of_ble_eq_true rfl) ?_ _ rfl rfl
  refine w_J5_ensureCapacityInternal_d00df_0 (by omega) ⟨⟨by omega, b4⟩, v, v3, L, ⟨by omega, v4⟩, ⟨by omega, b4⟩, ?_⟩
  rw [b5, tx_shr]
  by_cases hc : N ≤ L
  · have hg : tx_g L N = L := if_pos hc
    rw [if_pos hc, if_pos hc, hg]
    exact ⟨fun _ => ⟨⟨Nat.le_refl _, Nat.le_refl _⟩, rfl, hB, fun _ _ h => h, tx_E_ext (z_ext_refl _)⟩, fun e => absurd (tx_sub0 hc (by omega)) e⟩
  · have hgL := tx_g_L L N
    have hgN := tx_g_N L N
    have hg9 : tx_g L N < 65536 := by
      unfold tx_g
      rw [if_neg hc]
      split <;> omega
    have hLG : L < tx_g L N := by omega
    rw [if_neg hc, if_neg hc]
    refine ⟨fun e => absurd e (tx_subp (by omega) (by omega)), fun _ => ⟨⟨by omega, b4⟩, v, v3, ⟨by omega, b4⟩, ?_⟩⟩
    refine q_cI_of (fun x h' => x = nI (tx_g L N) ∧ h' = h) (tx_newCap (d := d - 1) (by omega) (by omega) (by omega) b4 b5 v3 (by omega) v4 hL hN (by omega)) (by omega) (q_lcle (by omega) (by omega)) (by omega) (by omega) trivial (fun x h' hp => ?_)
    rw [hp.1, hp.2, b5, tx_shl]
    refine ⟨⟨by omega, b4⟩, ?_⟩
    refine q_cR_of (fun x h' => x = q_nx h ∧ h' = q_cpy (q_new h (1, 1, tx_g L N)) (q_I h v) (q_nx h) 0 0 L) (tx_copyOf (d := d - 1) (by omega) (by omega) (by omega) v2 v4 hLG hg9 v6) (by omega) (q_lcle (by omega) (by omega)) (by omega) (by omega) trivial (fun x h' hp => ?_)
    rw [hp.1, hp.2]
    exact ⟨⟨by omega, (tx_n_sh (by omega)).trans b4⟩, ⟨by omega, by omega⟩, rfl, tx_B_grow hB v3 hgL, fun a l2 hS => tx_S_grow b4 hS, tx_E_trans (tx_E_ext (z_ext_cpy (z_ext_new _ _) (Nat.le_refl _))) (tx_E_pR ((tx_n_sh (by omega)).trans b4))⟩
theorem tx_inf (hd : 2 ≤ d) (hd2 : d < 2048) (hb : 400 ≤ b) (hs : q_sh h b = (0, 14, 0)) (hc : q_I h b 1 = 0) (hS : tx_S h a l2) : q_Ct g m_J5_inflateIfNeededFor_a7421 d 0 0 [] [.ref b, .ref a] h (fun o h' => o = .inl none ∧ h' = h) := by
  refine q_CtK ok_J5_inflateIfNeededFor_a7421 (by omega) (Nat.le_of_ble_eq_true rfl) ?_ _ rfl rfl
  refine k_o_xcompact okB_J5_inflateIfNeededFor_a7421 rfl (by decide +kernel) ?_
  rcases id hS with ⟨ha, -⟩ | ⟨⟨a1, -⟩, a3, -⟩
  · refine w_J5_inflateIfNeededFor_a7421_C_1 (by omega) ⟨fun e => absurd e (by decide), fun _ => ⟨⟨hb, hs⟩, rfl, ha, ?_⟩⟩
    refine q_cI_of (fun x h' => x = 0 ∧ h' = h) (tx_coder (d := d - 1) (by omega) (by omega) hS) (by omega) (q_lcle (by omega) (by omega)) (Nat.le_refl _) (Nat.le_refl _) trivial (fun x h' hp => ?_)
    rw [hp.1, hp.2, hc]
    exact ⟨fun _ => ⟨⟨Nat.le_refl _, Nat.le_refl _⟩, rfl, rfl⟩, fun e => absurd rfl e⟩
  · refine w_J5_inflateIfNeededFor_a7421_1 (by omega) ⟨fun e => absurd e (by decide), fun _ => ⟨⟨hb, hs⟩, ⟨by omega, a3⟩, ?_⟩⟩
    refine q_cI_of (fun x h' => x = 0 ∧ h' = h) (tx_coder (d := d - 1) (by omega) (by omega) hS) (by omega) (q_lcle (by omega) (by omega)) (Nat.le_refl _) (Nat.le_refl _) trivial (fun x h' hp => ?_)
    rw [hp.1, hp.2, hc]
    exact ⟨fun _ => ⟨⟨Nat.le_refl _, Nat.le_refl _⟩, rfl, rfl⟩, fun e => absurd rfl e⟩
theorem tx_getB (hd : 2 ≤ d) (hd2 : d < 2048) (hS : tx_S h a l2) (hl : tx_as l2) (hv : 400 ≤ v) (hsv : q_sh h v = (1, 1, L)) (hn : n + l2.length ≤ L) (hL : L < 65536) :
    q_Ct g m_J0_getBytes_840e7 d 0 0 [] [.ref a, .ref v, .int (nI n), .int 0] h (fun o h' => o = .inl none ∧ ∃ f : Nat → Int32, h' = q_cpy h f v 0 n l2.length ∧ ∀ j, j < l2.length → f j = l2.getD j 0) := by
  refine q_CtK ok_J0_getBytes_840e7 (by omega) (Nat.le_of_ble_eq_true rfl) ?_ _ rfl rfl
  rcases id hS with ⟨ha, e⟩ | ⟨⟨a1, -⟩, a3, -, w, w1, ⟨w2, w3⟩, w4, w5, w6⟩
  · refine w_J0_getBytes_840e7_C_0 (by omega) ⟨rfl, ha, ?_⟩
    refine q_cI_of (fun x h' => x = 0 ∧ h' = h) (tx_coder (d := d - 1) (by omega) (by omega) hS) (by omega) (q_lcle (by omega) (by omega)) (Nat.le_refl _) (Nat.le_refl _) trivial (fun x h' hp => ?_)
    rw [hp.1, hp.2, tx_shl]
    refine ⟨fun e => absurd rfl e, fun _ => ⟨ha, rfl, ha, rfl, a, rfl, ha, ?_⟩⟩
    rw [e] at hn hl
    refine k_o_copyS (sp := 0) (dp := n) (c := (q_str a).length) (L2 := L) okB_J0_getBytes_840e7 rfl (by decide +kernel) (by omega) (Nat.le_of_ble_eq_true rfl) ha.1 ha.2 hv hsv (by omega) hn (by omega) (by omega) (fun i hi => ?_) ?_
    · rw [Nat.zero_add]; exact tx_byL hl hi
    · exact w_J0_getBytes_840e7_15 (by omega) ⟨⟨Nat.le_refl _, Nat.le_refl _⟩, rfl, _, by rw [e], fun j hj => by rw [e]⟩
  · refine w_J0_getBytes_840e7_0 (by omega) ⟨⟨by omega, a3⟩, ?_⟩
    refine q_cI_of (fun x h' => x = 0 ∧ h' = h) (tx_coder (d := d - 1) (by omega) (by omega) hS) (by omega) (q_lcle (by omega) (by omega)) (Nat.le_refl _) (Nat.le_refl _) trivial (fun x h' hp => ?_)
    rw [hp.1, hp.2, tx_shl]
    refine ⟨fun e => absurd rfl e, fun _ => ⟨⟨by omega, a3⟩, w, w1, ⟨by omega, a3⟩, w, w1, _, ⟨by omega, w4⟩, ?_⟩⟩
    refine k_o_copyB (sp := 0) (dp := n) (c := l2.length) (L := l2.length) (L2 := L) okB_J0_getBytes_840e7 rfl (by decide +kernel) (by omega) (Nat.le_of_ble_eq_true rfl) (by omega) w4 hv hsv (by omega) hn (by omega) (by omega) (fun i hi => ?_) ?_
    · rw [Nat.zero_add, w6 i hi]; exact tx_byL hl hi
    · exact w_J0_getBytes_840e7_15 (by omega) ⟨⟨Nat.le_refl _, Nat.le_refl _⟩, rfl, _, rfl, w6⟩
theorem tx_putS (hd : 3 ≤ d) (hd2 : d < 2048) (hb : 400 ≤ b) (hs : q_sh h b = (0, 14, 0)) (hc : q_I h b 1 = 0) (hvb : q_R h b 0 = some v) (hS : tx_S h a l2) (hl : tx_as l2) (hv : 400 ≤ v) (hsv : q_sh h v = (1, 1, L)) (hn : n + l2.length ≤ L) (hL : L < 65536) :
    q_Ct g m_J5_putStringAt_47b60 d 0 0 [] [.ref b, .int (nI n), .ref a] h (fun o h' => o = .inl none ∧ ∃ f : Nat → Int32, h' = q_cpy h f v 0 n l2.length ∧ ∀ j, j < l2.length → f j = l2.getD j 0) := by
  refine q_CtK ok_J5_putStringAt_47b60 (by omega) (Nat.le_of_ble_eq_true rfl) ?_ _ rfl rfl
  rcases id hS with ⟨ha, e⟩ | ⟨⟨a1, -⟩, a3, -⟩
  · refine w_J5_putStringAt_47b60_C_0 (by omega) ⟨⟨hb, hs⟩, ?_⟩
    refine q_cV_of (fun h' => h' = h) (tx_inf (d := d - 1) (by omega) (by omega) hb hs hc hS) (by omega) (q_lcle (by omega) (by omega)) (Nat.le_refl _) (Nat.le_refl _) trivial (fun h' hp => ?_)
    rw [hp, hc]
    refine ⟨⟨hb, hs⟩, v, hvb, ⟨hb, hs⟩, rfl, ha, ?_⟩
    exact q_cV_of _ (tx_getB (d := d - 1) (by omega) (by omega) hS hl hv hsv hn hL) (by omega) (q_lcle (by omega) (by omega)) (Nat.le_refl _) (Nat.le_refl _) trivial (fun h' hp => ⟨⟨Nat.le_refl _, Nat.le_refl _⟩, rfl, hp⟩)
  · refine w_J5_putStringAt_47b60_0 (by omega) ⟨⟨hb, hs⟩, ?_⟩
    refine q_cV_of (fun h' => h' = h) (tx_inf (d := d - 1) (by omega) (by omega) hb hs hc hS) (by omega) (q_lcle (by omega) (by omega)) (Nat.le_refl _) (Nat.le_refl _) trivial (fun h' hp => ?_)
    rw [hp, hc]
    refine ⟨⟨hb, hs⟩, v, hvb, ⟨hb, hs⟩, ⟨by omega, a3⟩, ?_⟩
    exact q_cV_of _ (tx_getB (d := d - 1) (by omega) (by omega) hS hl hv hsv hn hL) (by omega) (q_lcle (by omega) (by omega)) (Nat.le_refl _) (Nat.le_refl _) trivial (fun h' hp => ⟨⟨Nat.le_refl _, Nat.le_refl _⟩, rfl, hp⟩)
theorem tx_B_cpy {f : Nat → Int32} (hB : tx_B h0 h b L l) (v3 : q_R h b 0 = some v) (hl2 : tx_as l2) (hl : l.length + l2.length ≤ L) (hf : ∀ j, j < l2.length → f j = l2.getD j 0) {x : Int32} (hx : x = nI (l.length + l2.length)) : tx_B h0 (q_pI (q_cpy h f v 0 l.length l2.length) b 3 x) b L (l ++ l2) := by
  obtain ⟨b0, b1, -, -, -, -, v', ⟨v1, -⟩, v3', -, -, v6, -⟩ := id hB
  obtain rfl : v' = v := Option.some.inj (v3'.symm.trans v3)
  refine tx_B_put (h1 := q_cpy h f v' 0 l.length l2.length) hB v3 rfl rfl rfl (z_ext_cpy b0 v1) (fun a ha => tx_c_I ha) hl (fun j hj => ?_) (fun j hj => ?_) (fun j hj => ?_) hx
  · rw [tx_c_Is, pk_cpy_out (Or.inl hj)]
  · rw [tx_c_Is, pk_cpy_in (by omega) (by omega), show 0 + (l.length + j - l.length) = j by omega, hf j hj]
  · rw [tx_c_Is]
    by_cases hj2 : l.length ≤ j ∧ j < l.length + l2.length
    · rw [pk_cpy_in hj2.1 hj2.2, hf _ (by omega)]; exact tx_byL hl2 (by omega)
    · rw [pk_cpy_out (by omega)]; exact v6 j hj
theorem tx_app5 (hd : 4 ≤ d) (hd2 : d < 2048) (hB : tx_B h0 h b L l) (hS : tx_S h a l2) (hl2 : tx_as l2) (hL : L ≤ 2 * l.length + 18) (hN : l.length + l2.length ≤ 3000) :
    q_Ct g m_J5_append_cf1ce d (tx_g L (l.length + l2.length) - L) (2 * (tx_g L (l.length + l2.length) - L)) [] [.ref b, .ref a] h (fun o h' => ∃ x, o = .inl (some (.ref x)) ∧ tx_B h0 h' b (tx_g L (l.length + l2.length)) (l ++ l2) ∧ tx_E h h') := by
  obtain ⟨b0, b1, ⟨b2, b3⟩, b4, b5, b6, -⟩ := id hB
  have hgc := tx_g_c L (l.length + l2.length)
  have hgs := tx_g_s L (l.length + l2.length)
  have hgN := tx_g_N L (l.length + l2.length)
  have hg2 := tx_g_2 (L := L) (N := l.length + l2.length) (by omega)
  refine q_CtK ok_J5_append_cf1ce (by omega) (Nat.le_of_ble_eq_true rfl) ?_ _ rfl rfl
  rcases id hS with ⟨ha, -⟩ | ⟨⟨a1, -⟩, a3, -⟩
  · refine w_J5_append_cf1ce_C_0 (by omega) ⟨rfl, ha, ?_⟩
    refine q_cI_of (fun x h' => x = nI l2.length ∧ h' = h) (tx_len (d := d - 1) (by omega) (by omega) hS) (by omega) (q_lcle (by omega) (by omega)) (Nat.zero_le _) (Nat.zero_le _) trivial (fun x h' hp => ?_)
    rw [hp.1, hp.2, b6, nI_add]
    refine ⟨⟨by omega, b4⟩, ⟨by omega, b4⟩, ?_⟩
    refine q_cV_of (fun h' => tx_B h0 h' b (tx_g L (l.length + l2.length)) l ∧ (∀ a l2, tx_S h a l2 → tx_S h' a l2) ∧ tx_E h h') (tx_ens (d := d - 1) (by omega) (by omega) hB (by omega) (by omega)) (by omega) (q_lcle (by omega) (by omega)) (by simp only [Nat.zero_add]; exact hgc) (by simp only [Nat.zero_add]; exact hgs) trivial (fun h5 hp => ?_)
    obtain ⟨hB5, hS5, hE5⟩ := hp
    obtain ⟨c0, c1, ⟨c2, c3⟩, c4, c5, c6, v, ⟨v1, v2⟩, v3, v4, v5, v6, v7⟩ := id hB5
    rw [c6]
    refine ⟨⟨by omega, c4⟩, ⟨by omega, c4⟩, ?_⟩
    refine q_cV_of _ (tx_putS (d := d - 1) (by omega) (by omega) (by omega) c4 c5 v3 (hS5 _ _ hS) hl2 (by omega) v4 hgN (by omega)) (by omega) (q_lcle (by omega) (by omega)) (by simp only [Nat.zero_add, Nat.add_zero]; exact hgc) (by simp only [Nat.zero_add, Nat.add_zero]; exact hgs) trivial (fun h8 hp => ?_)
    obtain ⟨f, e8, hf⟩ := hp
    have hbv : b ≠ v := fun e => by rw [e, v4] at c4; cases c4
    have e9 : q_I h8 b 3 = nI l.length := by rw [e8, tx_c_I hbv]; exact c6
    have e4 : q_sh h8 b = (0, 14, 0) := by rw [e8]; exact c4
    rw [e9, nI_add]
    refine ⟨⟨by omega, e4⟩, ⟨by omega, e4⟩, ⟨by simp only [Nat.zero_add, Nat.add_zero]; exact hgc, by simp only [Nat.zero_add, Nat.add_zero]; exact hgs⟩, b, rfl, ?_⟩
    rw [e8]
    exact ⟨tx_B_cpy hB5 v3 hl2 hgN hf rfl, tx_E_trans hE5 (tx_E_trans (tx_E_cpy v4) (tx_E_pI (Or.inl c4)))⟩
  · refine w_J5_append_cf1ce_0 (by omega) ⟨⟨by omega, a3⟩, ?_⟩
    refine q_cI_of (fun x h' => x = nI l2.length ∧ h' = h) (tx_len (d := d - 1) (by omega) (by omega) hS) (by omega) (q_lcle (by omega) (by omega)) (Nat.zero_le _) (Nat.zero_le _) trivial (fun x h' hp => ?_)
    rw [hp.1, hp.2, b6, nI_add]
    refine ⟨⟨by omega, b4⟩, ⟨by omega, b4⟩, ?_⟩
    refine q_cV_of (fun h' => tx_B h0 h' b (tx_g L (l.length + l2.length)) l ∧ (∀ a l2, tx_S h a l2 → tx_S h' a l2) ∧ tx_E h h') (tx_ens (d := d - 1) (by omega) (by omega) hB (by omega) (by omega)) (by omega) (q_lcle (by omega) (by omega)) (by simp only [Nat.zero_add]; exact hgc) (by simp only [Nat.zero_add]; exact hgs) trivial (fun h5 hp => ?_)
    obtain ⟨hB5, hS5, hE5⟩ := hp
    obtain ⟨c0, c1, ⟨c2, c3⟩, c4, c5, c6, v, ⟨v1, v2⟩, v3, v4, v5, v6, v7⟩ := id hB5
    rw [c6]
    refine ⟨⟨by omega, c4⟩, ⟨by omega, c4⟩, ?_⟩
    refine q_cV_of _ (tx_putS (d := d - 1) (by omega) (by omega) (by omega) c4 c5 v3 (hS5 _ _ hS) hl2 (by omega) v4 hgN (by omega)) (by omega) (q_lcle (by omega) (by omega)) (by simp only [Nat.zero_add, Nat.add_zero]; exact hgc) (by simp only [Nat.zero_add, Nat.add_zero]; exact hgs) trivial (fun h8 hp => ?_)
    obtain ⟨f, e8, hf⟩ := hp
    have hbv : b ≠ v := fun e => by rw [e, v4] at c4; cases c4
    have e9 : q_I h8 b 3 = nI l.length := by rw [e8, tx_c_I hbv]; exact c6
    have e4 : q_sh h8 b = (0, 14, 0) := by rw [e8]; exact c4
    rw [e9, nI_add]
    refine ⟨⟨by omega, e4⟩, ⟨by omega, e4⟩, ⟨by simp only [Nat.zero_add, Nat.add_zero]; exact hgc, by simp only [Nat.zero_add, Nat.add_zero]; exact hgs⟩, b, rfl, ?_⟩
    rw [e8]
    exact ⟨tx_B_cpy hB5 v3 hl2 hgN hf rfl, tx_E_trans hE5 (tx_E_trans (tx_E_cpy v4) (tx_E_pI (Or.inl c4)))⟩
end TXTB
