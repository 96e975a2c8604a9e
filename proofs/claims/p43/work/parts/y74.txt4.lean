/-! TEXTS MADE, four: a text out of a builder, signs read -/
section TXTD
variable {g : q_G} {d : Nat} {h h1 h0 hb : q_H} {a b v n L N G e s : Nat} {l l2 : List Int32}
/-- a new row that holds the first n of v's -/
def tx_Nw (h h' : q_H) (v n x : Nat) : Prop := x = q_nx h ∧ z_ext h h' ∧ q_nx h' = q_nx h + 1 ∧ q_sh h' x = (1, 1, n) ∧ ∀ j, j < n → q_I h' x j = q_I h v j
theorem tx_cporB (hd : 2 ≤ d) (hd2 : d < 2048) (hv : 400 ≤ v) (hvn : v < q_nx h) (hs : q_sh h v = (1, 1, L)) (hnL : n ≤ L) (hL : L < 65536) (hf : ∀ j, j < L → q_by (q_I h v j)) :
    q_Ct g m_J7_copyOfRangeByte_39247 d 1 n [] [.ref v, .int 0, .int (nI n)] h (fun o h' => ∃ x, o = .inl (some (.ref x)) ∧ tx_Nw h h' v n x) := by
  have hsn : q_sh (q_new h (1, 1, n)) v = (1, 1, L) := (tx_n_sh (by omega)).trans hs
  have hck : q_Ct g m_J7_checkLength_df160 (d - 1) 0 0 [] [.int 0, .int (nI n)] h (fun o h' => o = .inl none ∧ h' = h) :=
    q_CtK ok_J7_checkLength_df160 (by omega) (Nat.le_of_ble_eq_true rfl) (w_J7_checkLength_df160_0 (by omega) ⟨fun _ => ⟨⟨Nat.le_refl _, Nat.le_refl _⟩, rfl, rfl⟩, fun e => absurd (nI_pos' (by omega)) e⟩) _ rfl rfl
  refine q_CtK ok_J7_copyOfRangeByte_39247 (by omega) (Nat.le_of_ble_eq_true rfl) ?_ _ rfl rfl
  refine w_J7_copyOfRangeByte_39247_0 (by omega) ?_
  refine q_cV_of (fun h' => h' = h) hck (by omega) (q_lcle (by omega) (by omega)) (Nat.zero_le _) (Nat.zero_le _) trivial (fun h' hp => ?_)
  rw [hp, Int32.sub_zero]
  refine ⟨n, rfl, by show n < 65536; omega, ⟨by omega, by omega⟩, L, ⟨hv, hsn⟩, ⟨by omega, by omega⟩, ?_⟩
  rw [Int32.sub_zero, tx_min (by omega) (by omega), Nat.min_eq_right hnL]
  refine k_o_copyB (sp := 0) (dp := 0) (L := L) (L2 := n) okB_J7_copyOfRangeByte_39247 rfl (by decide +kernel) (by omega) (Nat.le_of_ble_eq_true rfl) hv hsn (by omega) (z_sh_new _ _) (by omega) (by omega) (by omega) (by omega) (fun i hi => ?_) ?_
  · rw [Nat.zero_add, tx_n_I (by omega)]; exact hf i (by omega)
  · refine w_J7_copyOfRangeByte_39247_21 (by omega) ⟨⟨by omega, by omega⟩, _, rfl, rfl, z_ext_cpy (z_ext_new _ _) (Nat.le_refl _), rfl, z_sh_new _ _, fun j hj => ?_⟩
    rw [tx_c_Is, pk_cpy_in (Nat.zero_le _) (by omega), show 0 + (j - 0) = j by omega, tx_n_I (by omega)]
theorem tx_cpor (hd : 3 ≤ d) (hd2 : d < 2048) (hv : 400 ≤ v) (hvn : v < q_nx h) (hs : q_sh h v = (1, 1, L)) (hnL : n ≤ L) (hL : L < 65536) (hf : ∀ j, j < L → q_by (q_I h v j)) :
    q_Ct g m_J7_copyOfRange_39247 d 1 n [] [.ref v, .int 0, .int (nI n)] h (fun o h' => ∃ x, o = .inl (some (.ref x)) ∧ tx_Nw h h' v n x) := by
  refine q_CtK ok_J7_copyOfRange_39247 (by omega) (Nat.le_of_ble_eq_true rfl) ?_ _ rfl rfl
  refine w_J7_copyOfRange_39247_0 (by omega) ⟨fun e => absurd rfl e, fun _ => ⟨L, ⟨hv, hs⟩, fun e => ?_, fun _ => ?_⟩⟩
  · obtain rfl : n = L := (nI_eq (by omega) (by omega)).mp e
    refine k_o_cloneB (a := v) (L := n) okB_J7_copyOfRange_39247 rfl (by decide +kernel) rfl (by decide +kernel) (by omega) (Nat.le_of_ble_eq_true rfl) hv hs hf (by omega) (by omega) ?_
    refine w_J7_copyOfRange_39247_14 (by omega) ⟨⟨by omega, by omega⟩, _, rfl, rfl, z_ext_cln _ _ _, rfl, q_ur_s _ _ _, fun j _ => ?_⟩
    show q_ur (q_I h) (q_nx h) (q_I h v) (q_nx h) j = _
    rw [q_ur_s]
  · exact q_cR_of _ (tx_cporB (d := d - 1) (by omega) (by omega) hv hvn hs hnL hL hf) (by omega) (q_lcle (by omega) (by omega)) (by omega) (by omega) trivial (fun x h' hp => ⟨⟨by omega, by omega⟩, x, rfl, hp⟩)
/-- a text made from a builder -/
theorem tx_mk (hd : 4 ≤ d) (hd2 : d < 2048) (hB : tx_B h0 hb b L l) (he : z_ext hb h) (hs1 : q_nx hb ≤ s) (hs2 : s < q_nx h) (hss : q_sh h s = (0, 13, 0)) (hL : L < 65536) :
    q_Ct g m_J0_init_db425 d 1 l.length [] [.ref s, .ref b, .null] h (fun o h' => o = .inl none ∧ z_ext hb h' ∧ tx_S h' s l) := by
  have hB2 := tx_B_ext he hB
  obtain ⟨-, b1, ⟨b2, b3⟩, b4, b5, b6, v, ⟨v1, v2⟩, v3, v4, v5, v6, v7⟩ := id hB2
  have hb9 : q_nx h0 ≤ q_nx hb := hB.1.1
  have hvs : v ≠ s := fun e => by rw [e, hss] at v4; cases v4
  have hs4 : 400 ≤ s := by omega
  refine q_CtK ok_J0_init_db425 (by omega) (Nat.le_of_ble_eq_true rfl) ?_ _ rfl rfl
  refine w_J0_init_db425_0 (by omega) ⟨⟨by omega, b4⟩, ?_⟩
  refine q_cR_of (fun x h' => x = v ∧ h' = h) (tx_val (d := d - 1) (by omega) (by omega) (by omega) b4 v3) (by omega) (q_lcle (by omega) (by omega)) (Nat.zero_le _) (Nat.zero_le _) trivial (fun x h' hp => ?_)
  rw [hp.1, hp.2]
  refine ⟨⟨by omega, b4⟩, ?_⟩
  refine q_cI_of (fun x h' => x = q_I h b 3 ∧ h' = h) (tx_lenB (d := d - 1) (by omega) (by omega) (by omega) b4) (by omega) (q_lcle (by omega) (by omega)) (Nat.zero_le _) (Nat.zero_le _) trivial (fun x h' hp => ?_)
  rw [hp.1, hp.2, b6]
  refine ⟨⟨by omega, b4⟩, ?_⟩
  refine q_cI_of (fun x h' => x = 1 ∧ h' = h) (tx_latB (d := d - 1) (by omega) (by omega) (by omega) b4 b5) (by omega) (q_lcle (by omega) (by omega)) (Nat.zero_le _) (Nat.zero_le _) trivial (fun x h' hp => ?_)
  rw [hp.1, hp.2]
  refine ⟨fun e => absurd e (by decide), fun _ => ⟨⟨by omega, hss⟩, rfl, ?_⟩⟩
  have eIv : q_I (q_pI h s 1 (0 : Int32)) v = q_I h v := z_I_a _ _ _ _ _ hvs
  refine q_cR_of (fun x h' => tx_Nw (q_pI h s 1 (0 : Int32)) h' v l.length x) (tx_cpor (d := d - 1) (L := L) (by omega) (by omega) (by omega) v2 v4 v5 hL (fun j hj => by rw [eIv]; exact v6 j hj)) (by omega) (q_lcle (by omega) (by omega)) (by omega) (by omega) trivial (fun x h' hp => ?_)
  obtain ⟨p1, p2, p3, p4, p5⟩ := hp
  obtain ⟨f1, f2, f3, -, -⟩ := p2.2 s hs2
  have hnx : q_nx (q_pI h s 1 (0 : Int32)) = q_nx h := rfl
  have hx1 : 400 ≤ x := by omega
  refine ⟨⟨by omega, f1.trans hss⟩, ⟨by omega, by omega⟩, rfl, z_ext_pR (z_ext_trans (z_ext_pI he hs1) p2) hs1 (fun c e => by cases e; exact Or.inr (by omega)), Or.inr ⟨⟨hs4, by show s < q_nx h'; omega⟩, f1.trans hss, ?_, x, z_R_s _ _ _ _, ⟨hx1, by show x < q_nx h'; omega⟩, p4, by show l.length < 65536; omega, fun j hj => ?_⟩⟩
  · show q_I h' s 1 = 0
    rw [f2, z_I_s]
  · show q_I h' x j = _
    rw [p5 j hj, eIv]; exact v7 j hj
theorem tx_toS (hd : 6 ≤ d) (hd2 : d < 2048) (hB : tx_B h0 h b L l) (hL : L < 65536) :
    q_Ct g m_J4_toString_0e30d d 2 (q_nf 13 + l.length) [] [.ref b] h (fun o h' => ∃ x, o = .inl (some (.ref x)) ∧ x = q_nx h ∧ z_ext h h' ∧ tx_S h' x l) := by
  have hs : q_sh (q_new h (0, 13, 0)) (q_nx h) = (0, 13, 0) := z_sh_new _ _
  have h5 : q_Ct g m_J0_init_81219 (d - 1) 1 l.length [] [.ref (q_nx h), .ref b] (q_new h (0, 13, 0)) (fun o h' => o = .inl none ∧ z_ext h h' ∧ tx_S h' (q_nx h) l) := by
    refine q_CtK ok_J0_init_81219 (by omega) (Nat.le_of_ble_eq_true rfl) ?_ _ rfl rfl
    refine w_J0_init_81219_0 (by omega) ?_
    exact q_cV_of _ (tx_mk (d := d - 1 - 1) (by omega) (by omega) hB (z_ext_new _ _) (Nat.le_refl _) (Nat.lt_succ_self _) hs hL) (by omega) (q_lcle (by omega) (by omega)) (by omega) (by omega) trivial (fun h' hp => ⟨⟨by omega, by omega⟩, rfl, hp⟩)
  refine q_CtK ok_J4_toString_0e30d (by omega) (Nat.le_of_ble_eq_true rfl) ?_ _ rfl rfl
  refine w_J4_toString_0e30d_0 (by omega) ⟨⟨by omega, by omega⟩, ?_⟩
  exact q_cV_of _ h5 (by omega) (q_lcle (by omega) (by omega)) (by omega) (by omega) trivial (fun h' hp => ⟨⟨by omega, by omega⟩, _, rfl, rfl, hp⟩)
/-- a sign of a text -/
theorem tx_chrAt (hd : 4 ≤ d) (hd2 : d < 2048) (hS : tx_S h a l) (hl : tx_as l) (hn : n < l.length) : q_Ct g m_J0_charAt_5068e d 0 0 [] [.ref a, .int (nI n)] h (fun o h' => ∃ x, o = .inl (some (.int x)) ∧ x = l.getD n 0 ∧ h' = h) := by
  obtain ⟨k, hk, hk2⟩ := tx_at hl hn
  rcases id hS with ⟨ha, e⟩ | ⟨⟨a1, a2⟩, a3, a4, w, w1, ⟨w2, w3⟩, w4, w5, w6⟩
  · refine q_Ct_mono (ct_schr hd ha (j := n) (by rw [← e]; exact hn)) (fun o h' hq => ⟨_, hq.1, by rw [e], hq.2⟩)
  · have hw5 : l.length < 65536 := w5
    have hc : q_Ct g m_J1_charAt_3b067 (d - 1) 0 0 [] [.ref w, .int (nI n)] h (fun o h' => ∃ x, o = .inl (some (.int x)) ∧ x = l.getD n 0 ∧ h' = h) := by
      refine q_CtK ok_J1_charAt_3b067 (by omega) (Nat.le_of_ble_eq_true rfl) ?_ _ rfl rfl
      refine w_J1_charAt_3b067_0 (by omega) ⟨l.length, ⟨by omega, w4⟩, ?_⟩
      refine q_cV_of (fun h' => h' = h) (ct_scheck (d := d - 1 - 1) (by omega) (nI_pos (by omega)) (nI_lt hn (by omega))) (by omega) (q_lcle (by omega) (by omega)) (Nat.zero_le _) (Nat.zero_le _) trivial (fun h' hp => ?_)
      rw [hp]
      refine ⟨n, l.length, rfl, ⟨by omega, w4, hn, w5⟩, ?_⟩
      rw [w6 n hn, hk, tx_chr k hk2]
      exact ⟨tx_nar k hk2, ⟨Nat.le_refl _, Nat.le_refl _⟩, _, rfl, rfl, rfl⟩
    refine q_CtK ok_J0_charAt_5068e (by omega) (Nat.le_of_ble_eq_true rfl) ?_ _ rfl rfl
    refine w_J0_charAt_5068e_0 (by omega) ⟨⟨by omega, a3⟩, ?_⟩
    refine q_cI_of (fun x h' => x = 1 ∧ h' = h) (tx_latS (d := d - 1) (by omega) (by omega) (by omega) a3 a4) (by omega) (q_lcle (by omega) (by omega)) (Nat.zero_le _) (Nat.zero_le _) trivial (fun x h' hp => ?_)
    rw [hp.1, hp.2]
    refine ⟨fun e => absurd e (by decide), fun _ => ⟨⟨by omega, a3⟩, w, w1, ?_⟩⟩
    refine q_cI_of (fun x h' => x = l.getD n 0 ∧ h' = h) hc (by omega) (q_lcle (by omega) (by omega)) (Nat.zero_le _) (Nat.zero_le _) trivial (fun x h' hp => ?_)
    rw [hp.1, hp.2, hk]
    exact ⟨tx_nar k hk2, ⟨Nat.le_refl _, Nat.le_refl _⟩, _, rfl, rfl, rfl⟩
end TXTD
