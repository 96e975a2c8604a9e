/-! TEXTS MADE, one: what the JDK's builders do, from the leaves up -/
/-- small signs -/
def tx_as (l : List Int32) : Prop := ∀ x ∈ l, ∃ b, x = nI b ∧ b < 128
theorem tx_by0 : ∀ b : Nat, b < 128 → fits .byte (.int (nI b)) = true := by decide +kernel
theorem tx_chr : ∀ b : Nat, b < 128 → (((nI b) &&& (255 : Int32)).toUInt32 % 65536).toInt32 = nI b := by decide +kernel
theorem tx_nar : ∀ b : Nat, b < 128 → narrow .char (.int (nI b)) = .int (nI b) := by decide +kernel
theorem tx_at {l : List Int32} (hl : tx_as l) {i : Nat} (hi : i < l.length) : ∃ b, l.getD i 0 = nI b ∧ b < 128 := hl _ (q_getD_mem hi)
theorem tx_byL {l : List Int32} (hl : tx_as l) {i : Nat} (hi : i < l.length) : q_by (l.getD i 0) := by
  obtain ⟨b, e, hb⟩ := tx_at hl hi
  rw [e]; exact tx_by0 b hb
theorem tx_asA {l m : List Int32} (hl : tx_as l) (hm : tx_as m) : tx_as (l ++ m) := fun x hx => by
  rcases List.mem_append.mp hx with hx | hx
  · exact hl x hx
  · exact hm x hx
def tx_asb (l : List Int32) : Bool := l.all fun x => decide (x = nI x.toNatClampNeg) && Nat.blt x.toNatClampNeg 128
theorem tx_asb_of {l : List Int32} (h : tx_asb l = true) : tx_as l := fun x hx => by
  have h2 := List.all_eq_true.mp h x hx
  simp only [Bool.and_eq_true, decide_eq_true_eq] at h2
  exact ⟨_, h2.1, Nat.blt_eq.mp h2.2⟩
def tx_strc : Bool := (List.range 300).all fun b => tx_asb (q_str b)
theorem tx_strc_ok : tx_strc = true := by decide +kernel
theorem tx_asC {a : Nat} (ha : a < 300) : tx_as (q_str a) := tx_asb_of (List.all_eq_true.mp tx_strc_ok a (List.mem_range.mpr ha))
/-- what a builder's room grows to -/
def tx_g (L N : Nat) : Nat := if N ≤ L then L else if N ≤ 2 * L + 2 then 2 * L + 2 else N
theorem tx_g_max {L N : Nat} (h : L < N) : L + max (N - L) (L + 2) = tx_g L N := by
  unfold tx_g
  rw [if_neg (by omega), Nat.max_def]
  split <;> split <;> omega
theorem tx_g_L (L N : Nat) : L ≤ tx_g L N := by
  unfold tx_g
  split
  · exact Nat.le_refl _
  · split <;> omega
theorem tx_g_N (L N : Nat) : N ≤ tx_g L N := by
  unfold tx_g
  split
  · assumption
  · split <;> omega
theorem tx_g_2 {L N : Nat} (h : L ≤ 2 * N + 18) : tx_g L N ≤ 2 * N + 18 := by
  unfold tx_g
  split
  · exact h
  · split <;> omega
theorem tx_g_c (L N : Nat) : (if N ≤ L then 0 else 1) ≤ tx_g L N - L := by
  unfold tx_g
  split
  · exact Nat.zero_le _
  · split <;> omega
theorem tx_g_s (L N : Nat) : (if N ≤ L then 0 else tx_g L N) ≤ 2 * (tx_g L N - L) := by
  unfold tx_g
  split
  · exact Nat.zero_le _
  · split <;> omega
theorem tx_max {a b : Nat} (ha : a < 2 ^ 31) (hb : b < 2 ^ 31) : q_max (nI a) (nI b) = nI (max a b) := by
  unfold q_max
  by_cases h : a < b
  · rw [if_pos (nI_lt h hb), Nat.max_eq_right (Nat.le_of_lt h)]
  · rw [if_neg (nI_nlt (by omega) ha), Nat.max_eq_left (by omega)]
theorem tx_min {a b : Nat} (ha : a < 2 ^ 31) (hb : b < 2 ^ 31) : q_min (nI a) (nI b) = nI (min a b) := by
  unfold q_min
  by_cases h : b < a
  · rw [if_pos (nI_lt h ha), Nat.min_eq_right (Nat.le_of_lt h)]
  · rw [if_neg (nI_nlt (by omega) hb), Nat.min_eq_left (by omega)]
theorem tx_shr (x : Int32) : x >>> ((0 : Int32) &&& 31) = x := by
  rw [show ((0 : Int32) &&& 31) = 0 from by decide]; exact Int32.shiftRight_zero
theorem tx_shl (x : Int32) : x <<< ((0 : Int32) &&& 31) = x := by
  rw [show ((0 : Int32) &&& 31) = 0 from by decide]; exact Int32.shiftLeft_zero
theorem tx_sub0 {N L : Nat} (h : N ≤ L) (hL : L < 2 ^ 31) : nI N - nI L ≤ 0 := by
  have e : nI N - nI L = -nI (L - N) := by
    rw [← m_subI h, Int32.neg_sub]
  rw [e, Int32.le_iff_toInt_le, Int32.toInt_neg, nI_toInt (by omega)]
  show Int.bmod (-((L - N : Nat) : Int)) (2 ^ 32) ≤ 0
  rw [Int.bmod_def]
  split <;> omega
theorem tx_subp {N L : Nat} (h : L < N) (hN : N < 2 ^ 31) : ¬ nI N - nI L ≤ 0 := by
  rw [m_subI (Nat.le_of_lt h)]
  exact nI_nle (by omega) (by omega)
theorem tx_n_sh {h : q_H} {s : q_Sh} {a : Nat} (ha : a ≠ q_nx h) : q_sh (q_new h s) a = q_sh h a := q_ur_n _ _ _ ha
theorem tx_n_I {h : q_H} {s : q_Sh} {a : Nat} (ha : a ≠ q_nx h) : q_I (q_new h s) a = q_I h a := q_ur_n _ _ _ ha
theorem tx_n_R {h : q_H} {s : q_Sh} {a : Nat} (ha : a ≠ q_nx h) : q_R (q_new h s) a = q_R h a := q_ur_n _ _ _ ha
theorem tx_n_I0 {h : q_H} {s : q_Sh} : q_I (q_new h s) (q_nx h) = fun _ => 0 := q_ur_s _ _ _
theorem tx_c_I {h : q_H} {f : Nat → Int32} {a b sp dp c : Nat} (ha : a ≠ b) : q_I (q_cpy h f b sp dp c) a = q_I h a := q_ur_n _ _ _ ha
theorem tx_c_Is {h : q_H} {f : Nat → Int32} {b sp dp c : Nat} : q_I (q_cpy h f b sp dp c) b = va_cpy f (q_I h b) sp dp c := q_ur_s _ _ _
theorem z_ext_cpy {h h1 : q_H} {f : Nat → Int32} {b sp dp c : Nat} (e : z_ext h h1) (hb : q_nx h ≤ b) : z_ext h (q_cpy h1 f b sp dp c) := by
  refine ⟨e.1, fun a ha => ?_⟩
  obtain ⟨e1, e2, e3, e4, e5⟩ := e.2 a ha
  exact ⟨e1, (q_ur_n _ _ _ (by omega)).trans e2, e3, e4, e5⟩
/-- what a builder's work leaves alone: all but builders and rows of bytes -/
def tx_E (h h' : q_H) : Prop := q_nx h ≤ q_nx h' ∧ ∀ a, a < q_nx h → q_sh h' a = q_sh h a ∧ q_E h' a = q_E h a ∧ q_L h' a = q_L h a ∧ (q_sh h a ≠ (0, 14, 0) → q_R h' a = q_R h a ∧ ((∀ L, q_sh h a ≠ (1, 1, L)) → q_I h' a = q_I h a))
theorem tx_E_ext {h h' : q_H} (e : z_ext h h') : tx_E h h' := ⟨e.1, fun a ha => by
  obtain ⟨e1, e2, e3, e4, e5⟩ := e.2 a ha
  exact ⟨e1, e4.1, e5, fun _ => ⟨e3, fun _ => e2⟩⟩⟩
theorem tx_E_trans {h1 h2 h3 : q_H} (a : tx_E h1 h2) (b : tx_E h2 h3) : tx_E h1 h3 := by
  refine ⟨Nat.le_trans a.1 b.1, fun x hx => ?_⟩
  obtain ⟨a1, a2, a3, a4⟩ := a.2 x hx
  obtain ⟨b1, b2, b3, b4⟩ := b.2 x (Nat.lt_of_lt_of_le hx a.1)
  rw [a1] at b1 b4
  exact ⟨b1, b2.trans a2, b3.trans a3, fun h => ⟨(b4 h).1.trans (a4 h).1, fun h9 => ((b4 h).2 h9).trans ((a4 h).2 h9)⟩⟩
theorem tx_E_pI {h : q_H} {b j : Nat} {x : Int32} (hs : q_sh h b = (0, 14, 0) ∨ ∃ L, q_sh h b = (1, 1, L)) : tx_E h (q_pI h b j x) := ⟨Nat.le_refl _, fun a _ => ⟨rfl, rfl, rfl, fun h1 => ⟨rfl, fun h2 => by
  have hne : a ≠ b := fun e => by
    rcases hs with hs | ⟨L, hs⟩
    · exact h1 (by rw [e]; exact hs)
    · exact h2 L (by rw [e]; exact hs)
  exact z_I_a _ _ _ _ _ hne⟩⟩⟩
theorem tx_E_pR {h : q_H} {b j : Nat} {x : Option Nat} (hs : q_sh h b = (0, 14, 0)) : tx_E h (q_pR h b j x) := ⟨Nat.le_refl _, fun a _ => ⟨rfl, rfl, rfl, fun h1 => ⟨z_R_a _ _ _ _ _ (fun e => h1 (by rw [e]; exact hs)), fun _ => rfl⟩⟩⟩
theorem tx_E_cpy {h : q_H} {f : Nat → Int32} {b sp dp c L : Nat} (hs : q_sh h b = (1, 1, L)) : tx_E h (q_cpy h f b sp dp c) := ⟨Nat.le_refl _, fun a _ => ⟨rfl, rfl, rfl, fun _ => ⟨rfl, fun h2 => tx_c_I (fun e => h2 L (by rw [e]; exact hs))⟩⟩⟩
/-- a text, lying outside or made -/
def tx_S (h : q_H) (a : Nat) (l : List Int32) : Prop := ((q_isStr a = true ∧ a < 300) ∧ l = q_str a) ∨ ((400 ≤ a ∧ a < q_nx h) ∧ q_sh h a = (0, 13, 0) ∧ q_I h a 1 = 0 ∧ ∃ v, q_R h a 0 = some v ∧ (400 ≤ v ∧ v < q_nx h) ∧ q_sh h v = (1, 1, l.length) ∧ q_s16 l.length ∧ ∀ j, j < l.length → q_I h v j = l.getD j 0)
theorem tx_S_ext {h h' : q_H} {a : Nat} {l : List Int32} (e : z_ext h h') (hS : tx_S h a l) : tx_S h' a l := by
  rcases hS with hS | ⟨⟨a1, a2⟩, a3, a4, v, v1, ⟨v2, v3⟩, v4, v5, v6⟩
  · exact Or.inl hS
  · obtain ⟨e1, e2, e3, -, -⟩ := e.2 a a2
    obtain ⟨f1, f2, f3, -, -⟩ := e.2 v v3
    exact Or.inr ⟨⟨a1, Nat.lt_of_lt_of_le a2 e.1⟩, e1.trans a3, by rw [e2]; exact a4, v, by rw [e3]; exact v1, ⟨v2, Nat.lt_of_lt_of_le v3 e.1⟩, f1.trans v4, v5, fun j hj => by rw [f2]; exact v6 j hj⟩
/-- a builder over h0, its room L, its text l -/
def tx_B (h0 h : q_H) (b L : Nat) (l : List Int32) : Prop := z_ext h0 h ∧ 400 ≤ q_nx h0 ∧ (q_nx h0 ≤ b ∧ b < q_nx h) ∧ q_sh h b = (0, 14, 0) ∧ q_I h b 1 = 0 ∧ q_I h b 3 = nI l.length ∧ ∃ v, (q_nx h0 ≤ v ∧ v < q_nx h) ∧ q_R h b 0 = some v ∧ q_sh h v = (1, 1, L) ∧ l.length ≤ L ∧ (∀ j, j < L → q_by (q_I h v j)) ∧ ∀ j, j < l.length → q_I h v j = l.getD j 0
theorem tx_B_ext {h0 h h' : q_H} {b L : Nat} {l : List Int32} (e : z_ext h h') (hB : tx_B h0 h b L l) : tx_B h0 h' b L l := by
  obtain ⟨b0, b1, ⟨b2, b3⟩, b4, b5, b6, v, ⟨v1, v2⟩, v3, v4, v5, v6, v7⟩ := hB
  obtain ⟨e1, e2, e3, -, -⟩ := e.2 b b3
  obtain ⟨f1, f2, f3, -, -⟩ := e.2 v v2
  exact ⟨z_ext_trans b0 e, b1, ⟨b2, Nat.lt_of_lt_of_le b3 e.1⟩, e1.trans b4, by rw [e2]; exact b5, by rw [e2]; exact b6, v, ⟨v1, Nat.lt_of_lt_of_le v2 e.1⟩, by rw [e3]; exact v3, f1.trans v4, v5, fun j hj => by rw [f2]; exact v6 j hj, fun j hj => by rw [f2]; exact v7 j hj⟩
section TXT
variable {g : q_G} {d : Nat} {h h0 : q_H} {a b v n L N : Nat} {l l2 : List Int32}
theorem tx_coder (hd : 1 ≤ d) (hd2 : d < 2048) (hS : tx_S h a l) : q_Ct g m_J0_coder_7d493 d 0 0 [] [.ref a] h (fun o h' => ∃ x, o = .inl (some (.int x)) ∧ x = 0 ∧ h' = h) := by
  rcases hS with ⟨ha, -⟩ | ⟨⟨a1, -⟩, a3, a4, -⟩
  · exact q_Ct_mono (ct_coder hd ha) (fun o h' hq => ⟨_, hq.1, rfl, hq.2⟩)
  · refine q_CtK ok_J0_coder_7d493 (by omega) (Nat.le_of_ble_eq_true rfl) ?_ _ rfl rfl
    refine k_o_xcompact okB_J0_coder_7d493 rfl (by decide +kernel) ?_
    refine w_J0_coder_7d493_1 hd ⟨fun e => absurd e (by decide), fun _ => ⟨⟨by omega, a3⟩, ?_⟩⟩
    rw [a4]
    exact ⟨rfl, ⟨Nat.le_refl _, Nat.le_refl _⟩, _, rfl, rfl, rfl⟩
theorem tx_latB (hd : 1 ≤ d) (hd2 : d < 2048) (hb : 400 ≤ b) (hs : q_sh h b = (0, 14, 0)) (hc : q_I h b 1 = 0) : q_Ct g m_J5_isLatin1_aae02 d 0 0 [] [.ref b] h (fun o h' => ∃ x, o = .inl (some (.int x)) ∧ x = 1 ∧ h' = h) := by
  refine q_CtK ok_J5_isLatin1_aae02 (by omega) (Nat.le_of_ble_eq_true rfl) ?_ _ rfl rfl
  refine k_o_xcompact okB_J5_isLatin1_aae02 rfl (by decide +kernel) ?_
  refine w_J5_isLatin1_aae02_1 hd ⟨fun e => absurd e (by decide), fun _ => ⟨⟨hb, hs⟩, fun e => absurd hc e, fun _ => ⟨rfl, ⟨Nat.le_refl _, Nat.le_refl _⟩, _, rfl, rfl, rfl⟩⟩⟩
theorem tx_latS (hd : 1 ≤ d) (hd2 : d < 2048) (hb : 400 ≤ a) (hs : q_sh h a = (0, 13, 0)) (hc : q_I h a 1 = 0) : q_Ct g m_J0_isLatin1_aae02 d 0 0 [] [.ref a] h (fun o h' => ∃ x, o = .inl (some (.int x)) ∧ x = 1 ∧ h' = h) := by
  refine q_CtK ok_J0_isLatin1_aae02 (by omega) (Nat.le_of_ble_eq_true rfl) ?_ _ rfl rfl
  refine k_o_xcompact okB_J0_isLatin1_aae02 rfl (by decide +kernel) ?_
  refine w_J0_isLatin1_aae02_1 hd ⟨fun e => absurd e (by decide), fun _ => ⟨⟨hb, hs⟩, fun e => absurd hc e, fun _ => ⟨rfl, ⟨Nat.le_refl _, Nat.le_refl _⟩, _, rfl, rfl, rfl⟩⟩⟩
theorem tx_len (hd : 2 ≤ d) (hd2 : d < 2048) (hS : tx_S h a l) : q_Ct g m_J0_length_8abf5 d 0 0 [] [.ref a] h (fun o h' => ∃ x, o = .inl (some (.int x)) ∧ x = nI l.length ∧ h' = h) := by
  rcases id hS with ⟨ha, e⟩ | ⟨⟨a1, a2⟩, a3, a4, v, v1, ⟨v2, v3⟩, v4, v5, v6⟩
  · exact q_Ct_mono (ct_slen hd ha) (fun o h' hq => ⟨_, hq.1, by rw [e], hq.2⟩)
  · refine q_CtK ok_J0_length_8abf5 (by omega) (Nat.le_of_ble_eq_true rfl) ?_ _ rfl rfl
    refine w_J0_length_8abf5_0 (by omega) ⟨⟨by omega, a3⟩, v, v1, _, ⟨by omega, v4⟩, ⟨by omega, a3⟩, ?_⟩
    refine q_cI_of (fun x h' => x = 0 ∧ h' = h) (tx_coder (d := d - 1) (by omega) (by omega) hS) (by omega) (q_lcle (by omega) (by omega)) (Nat.le_refl _) (Nat.le_refl _) trivial (fun x h' hp => ?_)
    obtain ⟨rfl, rfl⟩ := hp
    rw [tx_shr]
    exact ⟨rfl, ⟨Nat.le_refl _, Nat.le_refl _⟩, _, rfl, rfl, rfl⟩
theorem tx_newLen {x p : Nat} (hd : 1 ≤ d) (hd2 : d < 2048) (h1 : x < 2 ^ 31) (h2 : p < 2 ^ 31) (h0 : 0 < L + max x p) (h3 : L + max x p ≤ 2147483639) : q_Ct g m_J8_newLength_cabcc d 0 0 [] [.int (nI L), .int (nI x), .int (nI p)] h (fun o h' => ∃ y, o = .inl (some (.int y)) ∧ y = nI (L + max x p) ∧ h' = h) := by
  refine q_CtK ok_J8_newLength_cabcc (by omega) (Nat.le_of_ble_eq_true rfl) ?_ _ rfl rfl
  refine w_J8_newLength_cabcc_0 hd ?_
  rw [tx_max h1 h2, nI_add]
  exact ⟨⟨Nat.le_refl _, Nat.le_refl _⟩, fun e => absurd e (nI_nle h0 (by omega)), fun _ => ⟨fun e => absurd e (show ¬ nI 2147483639 < nI _ from nI_nlt h3 (by decide)), fun _ => ⟨rfl, ⟨Nat.le_refl _, Nat.le_refl _⟩, _, rfl, rfl, rfl⟩⟩⟩
theorem tx_newCap (hd : 2 ≤ d) (hd2 : d < 2048) (hb : 400 ≤ b) (hs : q_sh h b = (0, 14, 0)) (hc : q_I h b 1 = 0) (hv : q_R h b 0 = some v) (hv4 : 400 ≤ v) (hsv : q_sh h v = (1, 1, L)) (hL : L ≤ 20000) (hN : N ≤ 20000) (hLN : L < N) :
    q_Ct g m_J5_newCapacity_0f7a4 d 0 0 [] [.ref b, .int (nI N)] h (fun o h' => ∃ y, o = .inl (some (.int y)) ∧ y = nI (tx_g L N) ∧ h' = h) := by
  have hm := tx_g_max hLN
  have hg : tx_g L N ≤ 40002 := by
    unfold tx_g
    rw [if_neg (by omega)]
    split <;> omega
  have hg0 := tx_g_N L N
  refine q_CtK ok_J5_newCapacity_0f7a4 (by omega) (Nat.le_of_ble_eq_true rfl) ?_ _ rfl rfl
  refine w_J5_newCapacity_0f7a4_0 (by omega) ⟨⟨hb, hs⟩, v, hv, L, ⟨hv4, hsv⟩, ⟨hb, hs⟩, ⟨hb, hs⟩, ?_⟩
  rw [hc, tx_shl, tx_shl, m_subI (Nat.le_of_lt hLN), show nI L + (2 : Int32) = nI (L + 2) from nI_add L 2]
  refine q_cI_of (fun x h' => x = nI (L + max (N - L) (L + 2)) ∧ h' = h) (tx_newLen (d := d - 1) (by omega) (by omega) (by omega) (by omega) (by omega) (by omega)) (by omega) (q_lcle (by omega) (by omega)) (Nat.le_refl _) (Nat.le_refl _) trivial (fun x h' hp => ?_)
  obtain ⟨rfl, rfl⟩ := hp
  rw [hm, hc, tx_shr]
  refine ⟨fun _ => ⟨⟨hb, hs⟩, rfl, ⟨Nat.le_refl _, Nat.le_refl _⟩, _, rfl, rfl, rfl⟩, fun e => absurd ((nI_eq (b := 2147483647) (by omega) (by decide)).mp e) (by omega)⟩
theorem tx_copyOf (hd : 1 ≤ d) (hd2 : d < 2048) (hv : 400 ≤ v) (hvn : v < q_nx h) (hs : q_sh h v = (1, 1, L)) (hLN : L < N) (hN : q_s16 N) (hf : ∀ j, j < L → q_by (q_I h v j)) :
    q_Ct g m_J7_copyOf_9075b d 1 N [] [.ref v, .int (nI N)] h (fun o h' => ∃ x, o = .inl (some (.ref x)) ∧ x = q_nx h ∧ h' = q_cpy (q_new h (1, 1, N)) (q_I h v) (q_nx h) 0 0 L) := by
  have hN' : N < 65536 := hN
  have hsn : q_sh (q_new h (1, 1, N)) v = (1, 1, L) := (tx_n_sh (by omega)).trans hs
  refine q_CtK ok_J7_copyOf_9075b (by omega) (Nat.le_of_ble_eq_true rfl) ?_ _ rfl rfl
  refine w_J7_copyOf_9075b_0 hd ⟨L, ⟨hv, hs⟩, fun _ => ⟨N, rfl, hN, ⟨Nat.le_refl _, by omega⟩, L, ⟨hv, hsn⟩, ⟨Nat.le_refl _, by omega⟩, ?_⟩, fun e => absurd ((nI_eq (by omega) (by omega)).mp e) (by omega)⟩
  rw [tx_min (by omega) (by omega), Nat.min_eq_left (by omega)]
  refine k_o_copyB (sp := 0) (dp := 0) (L := L) (L2 := N) okB_J7_copyOf_9075b rfl (by decide +kernel) hd (Nat.le_of_ble_eq_true rfl) hv hsn (by omega) (z_sh_new _ _) (by omega) (by omega) (by omega) (by omega) (fun i hi => ?_) ?_
  · rw [Nat.zero_add, tx_n_I (by omega)]; exact hf i hi
  · rw [tx_n_I (by omega)]
    exact w_J7_copyOf_9075b_20 hd ⟨⟨by omega, by omega⟩, _, rfl, rfl, rfl⟩
end TXT
