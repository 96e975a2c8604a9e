/-! TEXTS MADE, three: numbers appended, builders new, texts out of builders, signs read -/
theorem tx_s1 : ∀ n : Nat, n < 10 → ¬ -(nI n) ≤ (-10 : Int32) := by decide +kernel
theorem tx_s2 : ∀ n : Nat, n < 100 → 10 ≤ n → -(nI n) ≤ (-10 : Int32) := by decide +kernel
theorem tx_s3 : ∀ n : Nat, n < 100 → ¬ -(nI n) ≤ ((10 : Int32) * (-10)) := by decide +kernel
theorem tx_s4 : ∀ n : Nat, n < 100 → (-100 : Int32) < -(nI n) := by decide +kernel
theorem tx_s5 : ∀ n : Nat, n < 100 → 10 ≤ n → ¬ (-9 : Int32) ≤ -(nI n) := by decide +kernel
theorem tx_s6 : ∀ n : Nat, n < 10 → (-9 : Int32) ≤ -(nI n) := by decide +kernel
theorem tx_i8 : ∀ n : Nat, n < 128 → (nI n).toInt8.toInt32 = nI n := by decide +kernel
theorem tx_m1 {e : Nat} (h : 1 ≤ e) : nI e + -1 = nI (e - 1) := by
  rw [← Int32.sub_eq_add_neg]
  exact m_subI h
theorem tx_m2 {e : Nat} (h : 2 ≤ e) : nI e + -1 + -1 = nI (e - 2) := by
  rw [tx_m1 (by omega), tx_m1 (by omega)]
  congr 1
theorem tx_asD {n : Nat} (hn : n < 100) : tx_as (zs_dec n) := by
  unfold zs_dec
  split
  · intro x hx
    rcases List.mem_cons.mp hx with rfl | hx
    · exact ⟨_, rfl, by omega⟩
    · cases hx
  · intro x hx
    rcases List.mem_cons.mp hx with rfl | hx
    · exact ⟨_, rfl, by omega⟩
    · rcases List.mem_cons.mp hx with rfl | hx
      · exact ⟨_, rfl, by omega⟩
      · cases hx
theorem tx_lenD (n : Nat) : 1 ≤ (zs_dec n).length ∧ (zs_dec n).length ≤ 2 := by
  unfold zs_dec
  split
  · exact ⟨Nat.le_refl _, Nat.le_of_ble_eq_true rfl⟩
  · exact ⟨Nat.le_of_ble_eq_true rfl, Nat.le_refl _⟩
/-- a number's signs, written from behind -/
def tx_dg (h : q_H) (v e n : Nat) : q_H := if n < 10 then q_pI h v (e - 1) (nI (48 + n)) else q_pI (q_pI h v (e - 1) (nI (48 + n % 10))) v (e - 2) (nI (48 + n / 10))
theorem z_ext_cln (h : q_H) (a L : Nat) : z_ext h (q_cln h a L) := by
  refine ⟨Nat.le_succ _, fun x hx => ?_⟩
  have hne : x ≠ q_nx h := by omega
  exact ⟨q_ur_n _ _ _ hne, q_ur_n _ _ _ hne, q_ur_n _ _ _ hne, ⟨q_ur_n _ _ _ hne, (z_sp_new (s := (1, 1, L)) : z_sp h (q_new h (1, 1, L)))⟩, q_ur_n _ _ _ hne⟩
theorem okB_J4_length_8abf5 : q_okB m_J4_length_8abf5 = true := q_okB_of ok_J4_length_8abf5
section TXTC
variable {g : q_G} {d : Nat} {h h1 h0 hb : q_H} {a b v n L N G e s : Nat} {l l2 : List Int32}
theorem tx_ssz (hd : 1 ≤ d) (hd2 : d < 2048) (hn : n < 100) : q_Ct g m_J6_stringSize_0f7a4 d 0 0 [] [.int (nI n)] h (fun o h' => ∃ x, o = .inl (some (.int x)) ∧ x = nI (zs_dec n).length ∧ h' = h) := by
  refine q_CtK ok_J6_stringSize_0f7a4 (by omega) (Nat.le_of_ble_eq_true rfl) ?_ _ rfl rfl
  refine w_J6_stringSize_0f7a4_0 hd ⟨fun e => absurd e (nI_pos (by omega)), fun _ => ?_⟩
  refine w_J6_stringSize_0f7a4_13 hd ⟨fun e => absurd e (by decide), fun _ => ⟨fun e1 => ?_, fun e1 => ?_⟩⟩
  · have h10 : ¬ n < 10 := fun h => tx_s1 n h e1
    refine w_J6_stringSize_0f7a4_13 hd ⟨fun e => absurd e (by decide), fun _ => ⟨fun e2 => absurd e2 (tx_s3 n hn), fun _ => ⟨rfl, ⟨Nat.le_refl _, Nat.le_refl _⟩, _, rfl, ?_, rfl⟩⟩⟩
    unfold zs_dec
    rw [if_neg h10]
    rfl
  · have h10 : n < 10 := by
      rcases Nat.lt_or_ge n 10 with h | h
      · exact h
      · exact absurd (tx_s2 n hn h) e1
    refine ⟨rfl, ⟨Nat.le_refl _, Nat.le_refl _⟩, _, rfl, ?_, rfl⟩
    unfold zs_dec
    rw [if_pos h10]
    rfl
theorem tx_gc (hd : 1 ≤ d) (hd2 : d < 2048) (hn : n < 100) (hv : 400 ≤ v) (hsv : q_sh h v = (1, 1, L)) (he : (zs_dec n).length ≤ e) (heL : e ≤ L) (hL : L < 65536) :
    q_Ct g m_J6_gc d 0 0 [] [.int (nI n), .int (nI e), .ref v] h (fun o h' => ∃ x, o = .inl (some (.int x)) ∧ h' = tx_dg h v e n) := by
  have hd1 := tx_lenD n
  refine q_CtK ok_J6_gc (by omega) (Nat.le_of_ble_eq_true rfl) ?_ _ rfl rfl
  refine w_J6_gc_0 hd ⟨fun _ => ⟨fun e => absurd rfl e, fun _ => ?_⟩, fun e => absurd (nI_pos' (by omega)) e⟩
  refine w_J6_gc_13 hd ⟨fun _ => ⟨n, rfl, Int32.neg_neg, hn, e - 1, L, tx_m1 (by omega), ⟨hv, hsv, by omega, hL⟩, fun h9 => ⟨fun _ => ⟨rfl, ⟨Nat.le_refl _, Nat.le_refl _⟩, _, rfl, ?_⟩, fun e => absurd rfl e⟩, fun h9 => ?_⟩, fun e => absurd (tx_s4 n hn) e⟩
  · have h10 : n < 10 := by
      rcases Nat.lt_or_ge n 10 with h | h
      · exact h
      · exact absurd h9 (tx_s5 n hn h)
    unfold tx_dg
    rw [if_pos h10, Nat.mod_eq_of_lt h10, tx_i8 _ (by omega)]
  · have h10 : ¬ n < 10 := fun h => h9 (tx_s6 n h)
    have h2 : (zs_dec n).length = 2 := by
      unfold zs_dec
      rw [if_neg h10]
      rfl
    refine ⟨n, rfl, Int32.neg_neg, hn, e - 2, L, tx_m2 (by omega), ⟨hv, hsv, by omega, hL⟩, fun _ => ⟨rfl, ⟨Nat.le_refl _, Nat.le_refl _⟩, _, rfl, ?_⟩, fun e => absurd rfl e⟩
    unfold tx_dg
    rw [if_neg h10, tx_i8 _ (by omega), tx_i8 _ (by omega)]
theorem tx_B_dg (hB : tx_B h0 h b L l) (v3 : q_R h b 0 = some v) (hn : n < 100) (hl : l.length + (zs_dec n).length ≤ L) {x : Int32} (hx : x = nI (l.length + (zs_dec n).length)) : tx_B h0 (q_pI (tx_dg h v (l.length + (zs_dec n).length) n) b 3 x) b L (l ++ zs_dec n) := by
  obtain ⟨b0, b1, -, -, -, -, v', ⟨v1, -⟩, v3', -, -, v6, -⟩ := id hB
  obtain rfl : v' = v := Option.some.inj (v3'.symm.trans v3)
  by_cases h10 : n < 10
  · have e0 : zs_dec n = [nI (48 + n)] := if_pos h10
    have e1 : tx_dg h v' (l.length + (zs_dec n).length) n = q_pI h v' l.length (nI (48 + n)) := by
      unfold tx_dg
      rw [if_pos h10, e0]
      rfl
    rw [e1]
    refine tx_B_put (h1 := q_pI h v' l.length (nI (48 + n))) hB v3 rfl rfl rfl (z_ext_pI b0 v1) (fun a ha => z_I_a _ _ _ _ _ ha) hl (fun j hj => z_I_j _ _ _ _ _ (by omega)) (fun j hj => ?_) (fun j hj => ?_) hx
    · rw [e0] at hj ⊢
      obtain rfl : j = 0 := by
        have : j < 1 := hj
        omega
      exact z_I_s _ _ _ _
    · by_cases hj2 : j = l.length
      · subst hj2
        rw [z_I_s]; exact tx_by0 _ (by omega)
      · rw [z_I_j _ _ _ _ _ hj2]; exact v6 j hj
  · have e0 : zs_dec n = [nI (48 + n / 10), nI (48 + n % 10)] := if_neg h10
    have e1 : tx_dg h v' (l.length + (zs_dec n).length) n = q_pI (q_pI h v' (l.length + 1) (nI (48 + n % 10))) v' l.length (nI (48 + n / 10)) := by
      unfold tx_dg
      rw [if_neg h10, e0]
      rfl
    rw [e1]
    refine tx_B_put (h1 := q_pI (q_pI h v' (l.length + 1) (nI (48 + n % 10))) v' l.length (nI (48 + n / 10))) hB v3 rfl rfl rfl (z_ext_pI (z_ext_pI b0 v1) v1) (fun a ha => (z_I_a _ _ _ _ _ ha).trans (z_I_a _ _ _ _ _ ha)) hl (fun j hj => (z_I_j _ _ _ _ _ (by omega)).trans (z_I_j _ _ _ _ _ (by omega))) (fun j hj => ?_) (fun j hj => ?_) hx
    · rw [e0] at hj ⊢
      have hj : j < 2 := hj
      rcases (show j = 0 ∨ j = 1 by omega) with rfl | rfl
      · exact z_I_s _ _ _ _
      · exact (z_I_j _ _ _ _ _ (by omega)).trans (z_I_s _ _ _ _)
    · by_cases hj2 : j = l.length
      · subst hj2
        rw [z_I_s]; exact tx_by0 _ (by omega)
      · rw [z_I_j _ _ _ _ _ hj2]
        by_cases hj3 : j = l.length + 1
        · subst hj3
          rw [z_I_s]; exact tx_by0 _ (by omega)
        · rw [z_I_j _ _ _ _ _ hj3]; exact v6 j hj
theorem tx_appI5 (hd : 4 ≤ d) (hd2 : d < 2048) (hB : tx_B h0 h b L l) (hn : n < 100) (hL : L ≤ 2 * l.length + 18) (hN : l.length + (zs_dec n).length ≤ 3000) :
    q_Ct g m_J5_append_c97b9 d (tx_g L (l.length + (zs_dec n).length) - L) (2 * (tx_g L (l.length + (zs_dec n).length) - L)) [] [.ref b, .int (nI n)] h (fun o h' => ∃ x, o = .inl (some (.ref x)) ∧ tx_B h0 h' b (tx_g L (l.length + (zs_dec n).length)) (l ++ zs_dec n) ∧ tx_E h h') := by
  obtain ⟨b0, b1, ⟨b2, b3⟩, b4, b5, b6, -⟩ := id hB
  have hgc := tx_g_c L (l.length + (zs_dec n).length)
  have hgs := tx_g_s L (l.length + (zs_dec n).length)
  have hgN := tx_g_N L (l.length + (zs_dec n).length)
  have hg2 := tx_g_2 (L := L) (N := l.length + (zs_dec n).length) (by omega)
  refine q_CtK ok_J5_append_c97b9 (by omega) (Nat.le_of_ble_eq_true rfl) ?_ _ rfl rfl
  refine w_J5_append_c97b9_0 (by omega) ⟨⟨by omega, b4⟩, ?_⟩
  refine q_cI_of (fun x h' => x = nI (zs_dec n).length ∧ h' = h) (tx_ssz (d := d - 1) (by omega) (by omega) hn) (by omega) (q_lcle (by omega) (by omega)) (Nat.zero_le _) (Nat.zero_le _) trivial (fun x h' hp => ?_)
  rw [hp.1, hp.2, b6, nI_add]
  refine ⟨⟨by omega, b4⟩, ?_⟩
  refine q_cV_of (fun h' => tx_B h0 h' b (tx_g L (l.length + (zs_dec n).length)) l ∧ (∀ a l2, tx_S h a l2 → tx_S h' a l2) ∧ tx_E h h') (tx_ens (d := d - 1) (by omega) (by omega) hB (by omega) (by omega)) (by omega) (q_lcle (by omega) (by omega)) (by simp only [Nat.zero_add]; exact hgc) (by simp only [Nat.zero_add]; exact hgs) trivial (fun h5 hp => ?_)
  obtain ⟨hB5, -, hE5⟩ := hp
  obtain ⟨c0, c1, ⟨c2, c3⟩, c4, c5, c6, v, ⟨v1, v2⟩, v3, v4, v5, v6, v7⟩ := id hB5
  refine ⟨⟨by omega, c4⟩, ?_⟩
  refine q_cI_of (fun x h' => x = 1 ∧ h' = h5) (tx_latB (d := d - 1) (by omega) (by omega) (by omega) c4 c5) (by omega) (q_lcle (by omega) (by omega)) (by simp only [Nat.zero_add, Nat.add_zero]; exact hgc) (by simp only [Nat.zero_add, Nat.add_zero]; exact hgs) trivial (fun x h' hp => ?_)
  rw [hp.1, hp.2]
  refine ⟨fun e => absurd e (by decide), fun _ => ⟨⟨by omega, c4⟩, v, v3, ?_⟩⟩
  refine q_cI_of (fun x h' => h' = tx_dg h5 v (l.length + (zs_dec n).length) n) (q_Ct_mono (tx_gc (d := d - 1) (L := tx_g L (l.length + (zs_dec n).length)) (by omega) (by omega) hn (by omega) v4 (by omega) hgN (by omega)) (fun o h' hq => hq)) (by omega) (q_lcle (by omega) (by omega)) (by simp only [Nat.zero_add, Nat.add_zero]; exact hgc) (by simp only [Nat.zero_add, Nat.add_zero]; exact hgs) trivial (fun x h8 e8 => ?_)
  have e4 : q_sh h8 b = (0, 14, 0) := by
    rw [e8]
    unfold tx_dg
    split
    · exact c4
    · exact c4
  refine ⟨⟨by omega, e4⟩, ⟨by simp only [Nat.zero_add, Nat.add_zero]; exact hgc, by simp only [Nat.zero_add, Nat.add_zero]; exact hgs⟩, b, rfl, ?_⟩
  rw [e8]
  have hE8 : tx_E h5 (tx_dg h5 v (l.length + (zs_dec n).length) n) := by
    unfold tx_dg
    split
    · exact tx_E_pI (Or.inr ⟨_, v4⟩)
    · exact tx_E_trans (tx_E_pI (Or.inr ⟨_, v4⟩)) (tx_E_pI (Or.inr ⟨_, v4⟩))
  exact ⟨tx_B_dg hB5 v3 hn hgN rfl, tx_E_trans hE5 (tx_E_trans hE8 (tx_E_pI (Or.inl (by rw [← e8]; exact e4))))⟩
/-- the builder's own appends -/
theorem tx_app (hd : 5 ≤ d) (hd2 : d < 2048) (hB : tx_B h0 h b L l) (hS : tx_S h a l2) (hl2 : tx_as l2) (hL : L ≤ 2 * l.length + 18) (hN : l.length + l2.length ≤ 3000) :
    q_Ct g m_J4_append_15ec4 d (tx_g L (l.length + l2.length) - L) (2 * (tx_g L (l.length + l2.length) - L)) [] [.ref b, .ref a] h (fun o h' => ∃ x, o = .inl (some (.ref x)) ∧ x = b ∧ tx_B h0 h' b (tx_g L (l.length + l2.length)) (l ++ l2) ∧ tx_E h h') := by
  obtain ⟨b0, b1, ⟨b2, b3⟩, b4, -⟩ := id hB
  refine q_CtK ok_J4_append_15ec4 (by omega) (Nat.le_of_ble_eq_true rfl) ?_ _ rfl rfl
  refine w_J4_append_15ec4_0 (by omega) ⟨⟨by omega, b4⟩, ?_⟩
  refine q_cR_of _ (tx_app5 (d := d - 1) (by omega) (by omega) hB hS hl2 hL hN) (by omega) (q_lcle (by omega) (by omega)) (by simp only [Nat.zero_add]; exact Nat.le_refl _) (by simp only [Nat.zero_add]; exact Nat.le_refl _) trivial (fun x h' hp => ?_)
  exact ⟨⟨by simp only [Nat.zero_add]; exact Nat.le_refl _, by simp only [Nat.zero_add]; exact Nat.le_refl _⟩, b, rfl, rfl, hp⟩
theorem tx_appI (hd : 5 ≤ d) (hd2 : d < 2048) (hB : tx_B h0 h b L l) (hn : n < 100) (hL : L ≤ 2 * l.length + 18) (hN : l.length + (zs_dec n).length ≤ 3000) :
    q_Ct g m_J4_append_bf812 d (tx_g L (l.length + (zs_dec n).length) - L) (2 * (tx_g L (l.length + (zs_dec n).length) - L)) [] [.ref b, .int (nI n)] h (fun o h' => ∃ x, o = .inl (some (.ref x)) ∧ x = b ∧ tx_B h0 h' b (tx_g L (l.length + (zs_dec n).length)) (l ++ zs_dec n) ∧ tx_E h h') := by
  obtain ⟨b0, b1, ⟨b2, b3⟩, b4, -⟩ := id hB
  refine q_CtK ok_J4_append_bf812 (by omega) (Nat.le_of_ble_eq_true rfl) ?_ _ rfl rfl
  refine w_J4_append_bf812_0 (by omega) ⟨⟨by omega, b4⟩, ?_⟩
  refine q_cR_of _ (tx_appI5 (d := d - 1) (by omega) (by omega) hB hn hL hN) (by omega) (q_lcle (by omega) (by omega)) (by simp only [Nat.zero_add]; exact Nat.le_refl _) (by simp only [Nat.zero_add]; exact Nat.le_refl _) trivial (fun x h' hp => ?_)
  exact ⟨⟨by simp only [Nat.zero_add]; exact Nat.le_refl _, by simp only [Nat.zero_add]; exact Nat.le_refl _⟩, b, rfl, rfl, hp⟩
/-- a builder made new -/
theorem tx_init (hd : 2 ≤ d) (hd2 : d < 2048) (h4 : 400 ≤ q_nx h) : q_Ct g m_J4_init_da8c8 d 1 16 [] [.ref (q_nx h)] (q_new h (0, 14, 0)) (fun o h' => o = .inl none ∧ tx_B h h' (q_nx h) 16 []) := by
  have hs : q_sh (q_new h (0, 14, 0)) (q_nx h) = (0, 14, 0) := z_sh_new _ _
  have hn : q_nx (q_new h (0, 14, 0)) = q_nx h + 1 := rfl
  have hs2 : q_sh (q_new (q_new h (0, 14, 0)) (1, 1, 16)) (q_nx h) = (0, 14, 0) := (tx_n_sh (by omega)).trans hs
  have h5 : q_Ct g m_J5_init_d00df (d - 1) 1 16 [] [.ref (q_nx h), .int 16] (q_new h (0, 14, 0)) (fun o h' => o = .inl none ∧ tx_B h h' (q_nx h) 16 []) := by
    refine q_CtK ok_J5_init_d00df (by omega) (Nat.le_of_ble_eq_true rfl) ?_ _ rfl rfl
    refine w_J5_init_d00df_0 (by omega) ?_
    refine k_o_xcompact okB_J5_init_d00df rfl (by decide +kernel) ?_
    refine w_J5_init_d00df_3 (by omega) ⟨fun e => absurd e (by decide), fun _ => ⟨16, rfl, by decide, ⟨by omega, by omega⟩, ⟨by omega, hs2⟩, ⟨by omega, hs2⟩, rfl, ⟨by omega, by omega⟩, rfl, ?_⟩⟩
    have eI : ∀ i, i ≠ 1 → q_I (q_pI (q_pR (q_new (q_new h (0, 14, 0)) (1, 1, 16)) (q_nx h) 0 (some (q_nx (q_new h (0, 14, 0))))) (q_nx h) 1 (0 : Int32)) (q_nx h) i = 0 := fun i hi => by
      rw [z_I_j _ _ _ _ _ hi]
      show q_I (q_new (q_new h (0, 14, 0)) (1, 1, 16)) (q_nx h) i = 0
      rw [tx_n_I (by omega), tx_n_I0]
    refine ⟨z_ext_pI (z_ext_pR (z_ext_trans (z_ext_new _ _) (z_ext_new _ _)) (Nat.le_refl _) (fun c e => by cases e; exact Or.inr (by omega))) (Nat.le_refl _), h4, ⟨Nat.le_refl _, by show q_nx h < q_nx h + 1 + 1; omega⟩, hs2, z_I_s _ _ _ _, eI 3 (by decide), q_nx (q_new h (0, 14, 0)), ⟨by omega, Nat.lt_succ_self _⟩, z_R_s _ _ _ _, z_sh_new _ _, Nat.zero_le _, fun j hj => ?_, fun j hj => absurd hj (Nat.not_lt_zero _)⟩
    rw [z_I_a _ _ _ _ _ (by omega)]
    show q_by (q_I (q_new (q_new h (0, 14, 0)) (1, 1, 16)) (q_nx (q_new h (0, 14, 0))) j)
    rw [tx_n_I0]
    exact tx_by0 0 (by decide)
  refine q_CtK ok_J4_init_da8c8 (by omega) (Nat.le_of_ble_eq_true rfl) ?_ _ rfl rfl
  refine w_J4_init_da8c8_0 (by omega) ?_
  exact q_cV_of _ h5 (by omega) (q_lcle (by omega) (by omega)) (Nat.le_refl _) (Nat.le_refl _) trivial (fun h' hp => ⟨⟨Nat.le_refl _, Nat.le_refl _⟩, rfl, hp⟩)
theorem tx_val (hd : 1 ≤ d) (hd2 : d < 2048) (hb4 : 400 ≤ b) (hs : q_sh h b = (0, 14, 0)) (hv : q_R h b 0 = some v) : q_Ct g m_J5_getValue_6d5f1 d 0 0 [] [.ref b] h (fun o h' => ∃ x, o = .inl (some (.ref x)) ∧ x = v ∧ h' = h) :=
  q_CtK ok_J5_getValue_6d5f1 (by omega) (Nat.le_of_ble_eq_true rfl) (w_J5_getValue_6d5f1_0 hd ⟨⟨hb4, hs⟩, v, hv, ⟨Nat.le_refl _, Nat.le_refl _⟩, _, rfl, rfl, rfl⟩) _ rfl rfl
theorem tx_lenB (hd : 2 ≤ d) (hd2 : d < 2048) (hb4 : 400 ≤ b) (hs : q_sh h b = (0, 14, 0)) : q_Ct g m_J4_length_8abf5 d 0 0 [] [.ref b] h (fun o h' => ∃ x, o = .inl (some (.int x)) ∧ x = q_I h b 3 ∧ h' = h) := by
  have h5 : q_Ct g m_J5_length_8abf5 (d - 1) 0 0 [] [.ref b] h (fun o h' => ∃ x, o = .inl (some (.int x)) ∧ x = q_I h b 3 ∧ h' = h) :=
    q_CtK ok_J5_length_8abf5 (by omega) (Nat.le_of_ble_eq_true rfl) (w_J5_length_8abf5_0 (by omega) ⟨⟨hb4, hs⟩, rfl, ⟨Nat.le_refl _, Nat.le_refl _⟩, _, rfl, rfl, rfl⟩) _ rfl rfl
  refine q_CtK ok_J4_length_8abf5 (by omega) (Nat.le_of_ble_eq_true rfl) ?_ _ rfl rfl
  refine k_o_aload_n (x := b) okB_J4_length_8abf5 rfl rfl ?_
  refine k_callSU (M2 := m_J5_length_8abf5) (As := []) (rest := []) (b := b) okB_J4_length_8abf5 ok_J5_length_8abf5 rfl (by decide +kernel) csu_J5_length_8abf5 rfl hb4 hs h5 (by omega) (q_lcle (by omega) (by omega)) (Nat.le_refl _) (Nat.le_refl _) (Nat.le_of_ble_eq_true rfl) (fun x hx => absurd hx List.not_mem_nil) (fun _ _ _ => List.not_mem_nil) (fun _ _ => List.not_mem_nil) rfl (fun v h' hq => ?_) (fun E h' hq => by obtain ⟨x, e, -⟩ := hq; cases e)
  obtain ⟨x, e, e2, e3⟩ := hq
  cases e
  exact k_o_iret okB_J4_length_8abf5 rfl rfl rfl (Nat.le_refl _) (Nat.le_refl _) ⟨_, rfl, e2, e3⟩
end TXTC
