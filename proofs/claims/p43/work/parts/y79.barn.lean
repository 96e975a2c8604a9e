/-! THE LAW'S BARN AS IT IS MADE, two: the constructor, the text told -/
/-- a row made new for a field of s -/
def be_N (h : q_H) (s j : Nat) (sN : q_Sh) (h2 : q_H) : Prop := q_nx h2 = q_nx h + 1 ∧ (∀ a, a ≠ q_nx h → q_sh h2 a = q_sh h a ∧ q_I h2 a = q_I h a ∧ (a ≠ s → q_R h2 a = q_R h a) ∧ q_E h2 a = q_E h a ∧ q_L h2 a = q_L h a) ∧ q_sh h2 (q_nx h) = sN ∧ (∀ i, i ≠ j → q_R h2 s i = q_R h s i) ∧ q_R h2 s j = some (q_nx h) ∧ ∀ i, q_R h2 (q_nx h) i = none
theorem q_nf12 : q_nf 12 ≤ 23 := by decide +kernel
theorem zs_hooks_s : ∀ (n k : Nat), zs_hooks k (n + 1) = zs_hooks k n ++ (q_str 254 ++ (zs_dec (k + n) ++ q_str 255))
  | 0, k => by
    show q_str 254 ++ (zs_dec k ++ (q_str 255 ++ [])) = [] ++ (q_str 254 ++ (zs_dec (k + 0) ++ q_str 255))
    rw [List.append_nil, List.nil_append]
    rfl
  | n + 1, k => by
    have h := zs_hooks_s n (k + 1)
    show q_str 254 ++ (zs_dec k ++ (q_str 255 ++ zs_hooks (k + 1) (n + 1))) = (q_str 254 ++ (zs_dec k ++ (q_str 255 ++ zs_hooks (k + 1) n))) ++ (q_str 254 ++ (zs_dec (k + (n + 1)) ++ q_str 255))
    rw [h, show k + 1 + n = k + (n + 1) by omega]
    simp only [List.append_assoc]
theorem zs_lines_s {Q : Nat → Nat → Nat} : ∀ (n k : Nat), zs_lines Q k (n + 1) = zs_lines Q k n ++ (zs_told (Q (k + n)) ++ q_str 253)
  | 0, k => by
    show zs_told (Q k) ++ (q_str 253 ++ []) = [] ++ (zs_told (Q (k + 0)) ++ q_str 253)
    rw [List.append_nil, List.nil_append]
    rfl
  | n + 1, k => by
    have h := zs_lines_s (Q := Q) n (k + 1)
    show zs_told (Q k) ++ (q_str 253 ++ zs_lines Q (k + 1) (n + 1)) = (zs_told (Q k) ++ (q_str 253 ++ zs_lines Q (k + 1) n)) ++ (zs_told (Q (k + (n + 1))) ++ q_str 253)
    rw [h, show k + 1 + n = k + (n + 1) by omega]
    simp only [List.append_assoc]
theorem zs_lines_c {Q Q' : Nat → Nat → Nat} : ∀ (n k : Nat), (∀ j, k ≤ j → j < k + n → Q' j = Q j) → zs_lines Q' k n = zs_lines Q k n
  | 0, _, _ => rfl
  | n + 1, k, h => by
    show zs_told (Q' k) ++ (q_str 253 ++ zs_lines Q' (k + 1) n) = zs_told (Q k) ++ (q_str 253 ++ zs_lines Q (k + 1) n)
    rw [h k (Nat.le_refl _) (by omega), zs_lines_c n (k + 1) (fun j h1 h2 => h j (by omega) (by omega))]
def tx_bl (v : Int32) (M : Nat) : Nat := ((v &&& 2147483647) - (v &&& 2147483647) / nI M * nI M).toNatClampNeg
section BARN2
variable {g : q_G} {d mc ms : Nat} {h h' h1 h2 h3 h4 h0 hb : q_H} {a b c k n w s i j r ns L m k0 n0 H hf up pr : Nat} {l : List Int32} {Q : Nat → Nat → Nat} {q : Nat → Nat}
theorem be_N_of {sN : q_Sh} (hs : s < q_nx h) : be_N h s j sN (q_pR (q_new h sN) s j (some (q_nx h))) := by
  have hne : q_nx h ≠ s := by omega
  refine ⟨rfl, fun a ha => ⟨q_ur_n _ _ _ ha, q_ur_n _ _ _ ha, fun h1 => (z_R_a _ _ _ _ _ h1).trans (q_ur_n _ _ _ ha), q_ur_n _ _ _ ha, q_ur_n _ _ _ ha⟩, z_sh_new _ _, fun i hi => ?_, z_R_s _ _ _ _, fun i => ?_⟩
  · rw [z_R_j _ _ _ _ _ hi, tx_n_R (by omega)]
  · rw [z_R_a _ _ _ _ _ hne]
    show q_ur (q_R h) (q_nx h) (fun _ => none) (q_nx h) i = none
    rw [q_ur_s]
theorem be_N_X {sN : q_Sh} (hs1 : q_nx h0 ≤ s) (e : tx_X h0 h) (hN : be_N h s j sN h2) : tx_X h0 h2 := by
  obtain ⟨n1, n2, -⟩ := hN
  refine ⟨by have := e.1; omega, fun a ha => ?_⟩
  obtain ⟨e1, e2, e3, e4, e5⟩ := e.2 a ha
  have := e.1
  obtain ⟨m1, m2, m3, m4, m5⟩ := n2 a (by omega)
  exact ⟨m1.trans e1, m2.trans e2, (m3 (by omega)).trans e3, m4.trans e4, m5.trans e5⟩
theorem be_sim4 (hs4 : 400 ≤ s) (hs2 : s < q_nx h) (hs : q_sh h s = (0, 12, 0)) (hz : ∀ j, 7 ≤ j → q_I h s j = 0) (N1 : be_N h s 0 (3, 6, 0) h1) (N2 : be_N h1 s 1 (3, 6, 0) h2) (N3 : be_N h2 s 6 (3, 7, 0) h3) (N4 : be_N h3 s 2 (3, 6, H) h4) :
    be_F (q_pI (q_pI (q_pI h4 s 3 (nI hf)) s 4 (nI up)) s 5 (nI pr)) s H hf up pr ∧ be_G (q_pI (q_pI (q_pI h4 s 3 (nI hf)) s 4 (nI up)) s 5 (nI pr)) s 0 Q := by
  obtain ⟨a1, a2, a3, a4, a5, a6⟩ := N1
  obtain ⟨b1, b2, b3, b4, b5, b6⟩ := N2
  obtain ⟨c1, c2, c3, c4, c5, c6⟩ := N3
  obtain ⟨d1, d2, d3, d4, d5, d6⟩ := N4
  have S4 : q_sh h4 s = (0, 12, 0) := by rw [(d2 s (by omega)).1, (c2 s (by omega)).1, (b2 s (by omega)).1, (a2 s (by omega)).1]; exact hs
  have I4 : ∀ j, q_I h4 s j = q_I h s j := fun j => by rw [(d2 s (by omega)).2.1, (c2 s (by omega)).2.1, (b2 s (by omega)).2.1, (a2 s (by omega)).2.1]
  have R0 : q_R h4 s 0 = some (q_nx h) := by rw [d4 0 (by decide), c4 0 (by decide), b4 0 (by decide)]; exact a5
  have R1 : q_R h4 s 1 = some (q_nx h1) := by rw [d4 1 (by decide), c4 1 (by decide)]; exact b5
  have R6 : q_R h4 s 6 = some (q_nx h2) := by rw [d4 6 (by decide)]; exact c5
  have A0 : be_A h4 (q_nx h) 0 := ⟨⟨by omega, by omega⟩, by rw [(d2 _ (by omega)).1, (c2 _ (by omega)).1, (b2 _ (by omega)).1]; exact a3⟩
  have A1 : be_A h4 (q_nx h1) 0 := ⟨⟨by omega, by omega⟩, by rw [(d2 _ (by omega)).1, (c2 _ (by omega)).1]; exact b3⟩
  have A2 : be_A h4 (q_nx h3) H := ⟨⟨by omega, by omega⟩, d3⟩
  refine ⟨⟨⟨hs4, by show s < q_nx h4; omega⟩, S4, ⟨?_, ?_, z_I_s _ _ _ _, fun j hj => ?_⟩, q_nx h, q_nx h1, q_nx h3, ⟨R0, A0⟩, ⟨R1, A1⟩, ⟨d5, A2, d6⟩, by omega, by omega, by omega⟩, q_nx h2, R6, ⟨by omega, by show q_nx h2 < q_nx h4; omega⟩, ?_, fun k hk => absurd hk (Nat.not_lt_zero _)⟩
  · rw [z_I_j _ _ _ _ _ (by decide), z_I_j _ _ _ _ _ (by decide), z_I_s]
  · rw [z_I_j _ _ _ _ _ (by decide), z_I_s]
  · rw [z_I_j _ _ _ _ _ (by omega), z_I_j _ _ _ _ _ (by omega), z_I_j _ _ _ _ _ (by omega), I4]
    exact hz j hj
  · show q_sh h4 (q_nx h2) = (3, 7, 0)
    rw [(d2 _ (by omega)).1]; exact c3
theorem tx_sim (hd : 1 ≤ d) (hd2 : d < 2048) (e : tx_X h0 h) (h4 : 400 ≤ q_nx h0) (hs1 : q_nx h0 ≤ s) (hs2 : s < q_nx h) (hs : q_sh h s = (0, 12, 0)) (hz : ∀ j, 7 ≤ j → q_I h s j = 0) (hH : H < 1000) :
    q_Ct g m_X14_init d 4 H [] [.ref s, .int (nI H), .int (nI hf), .int (nI up), .int (nI pr)] h (fun o h' => o = .inl none ∧ tx_X h0 h' ∧ be_F h' s H hf up pr ∧ be_G h' s 0 Q) := by
  have hs4 : 400 ≤ s := by omega
  have sh1 : q_sh (q_new h (3, 6, 0)) s = (0, 12, 0) := (tx_n_sh (by omega)).trans hs
  have N1 := be_N_of (h := h) (s := s) (j := 0) (sN := (3, 6, 0)) hs2
  have sA : s < q_nx (q_pR (q_new h (3, 6, 0)) s 0 (some (q_nx h))) := Nat.lt_succ_of_lt hs2
  have N2 := be_N_of (j := 1) (sN := (3, 6, 0)) sA
  have sB : s < q_nx (q_pR (q_new (q_pR (q_new h (3, 6, 0)) s 0 (some (q_nx h))) (3, 6, 0)) s 1 (some (q_nx (q_pR (q_new h (3, 6, 0)) s 0 (some (q_nx h)))))) := Nat.lt_succ_of_lt sA
  have N3 := be_N_of (j := 6) (sN := (3, 7, 0)) sB
  have sC := Nat.lt_succ_of_lt sB
  have N4 := be_N_of (j := 2) (sN := (3, 6, H)) (h := (q_pR (q_new (q_pR (q_new (q_pR (q_new h (3, 6, 0)) s 0 (some (q_nx h))) (3, 6, 0)) s 1 (some (q_nx (q_pR (q_new h (3, 6, 0)) s 0 (some (q_nx h)))))) (3, 7, 0)) s 6 (some (q_nx (q_pR (q_new (q_pR (q_new h (3, 6, 0)) s 0 (some (q_nx h))) (3, 6, 0)) s 1 (some (q_nx (q_pR (q_new h (3, 6, 0)) s 0 (some (q_nx h))))))))) ) sC
  have sh2 := (tx_n_sh (s := (3, 6, 0)) (Nat.ne_of_lt sA)).trans sh1
  have sh3 := (tx_n_sh (s := (3, 7, 0)) (Nat.ne_of_lt sB)).trans sh2
  have sh4 := (N4.2.1 s (Nat.ne_of_lt sC)).1.trans sh3
  refine q_CtK ok_X14_init (by omega) (Nat.le_of_ble_eq_true rfl) ?_ _ rfl rfl
  refine w_X14_init_0 hd ⟨0, rfl, by decide, ⟨by omega, by omega⟩, ⟨hs4, sh1⟩, 0, rfl, by decide, ⟨by omega, by omega⟩, ⟨hs4, sh2⟩, 0, rfl, by decide, ⟨by omega, by omega⟩, ⟨hs4, sh3⟩, H, rfl, by show H < 65536; omega, ⟨by omega, by omega⟩, ⟨hs4, sh4⟩, ⟨hs4, sh4⟩, ⟨hs4, sh4⟩, ⟨hs4, sh4⟩, ⟨by omega, by omega⟩, rfl, ?_⟩
  have X4 := be_N_X hs1 (be_N_X hs1 (be_N_X hs1 (be_N_X hs1 e N1) N2) N3) N4
  exact ⟨tx_X_pI (tx_X_pI (tx_X_pI X4 hs1) hs1) hs1, be_sim4 hs4 hs2 hs hz N1 N2 N3 N4⟩
theorem be_bl {v : Int32} (h0 : 0 < w) (hM : w < 2 ^ 31) : (v &&& 2147483647) - (v &&& 2147483647) / nI w * nI w = nI (tx_bl v w) ∧ tx_bl v w < w := by
  obtain ⟨k, hk, ek⟩ := tx_and v
  unfold tx_bl
  rw [ek, pk_rem hk h0 hM, nI_clamp (Nat.lt_trans (Nat.mod_lt _ h0) hM)]
  exact ⟨rfl, Nat.mod_lt _ h0⟩
theorem be_cC {x : Int32} (hd : 2 ≤ d) (hd2 : d < 2048) (hg : g.2.length < 2147483648) (hx : x = nI j) (hj : j < 2 ^ 31) (hk : k ≤ mc) (hn : n ≤ ms) {C : Nat → Nat → Int32 → q_H → Prop} (hC : ∀ y, C k n y h) : q_cI g m_L_cell [] d mc ms [.ref 52, .int x] h k n True C := by
  rw [hx]
  refine q_cI_of (fun _ h' => h' = h) (q_Ct_mono (tx_cell (d := d - 1) (by omega) (by omega) hg hj) (fun o h' hq => hq)) (by omega) (q_lcle (by omega) (by omega)) (by omega) (by omega) trivial (fun y h' hp => ?_)
  rw [hp]
  exact hC y
theorem be_bC {v x : Int32} (hd : 2 ≤ d) (hd2 : d < 2048) (hx : x = nI w) (h0 : 0 < w) (hM : w < 2 ^ 31) (hk : k ≤ mc) (hn : n ≤ ms) {C : Nat → Nat → Int32 → q_H → Prop} (hC : tx_bl v w < w → C k n (nI (tx_bl v w)) h) : q_cI g m_L_below [] d mc ms [.int v, .int x] h k n True C := by
  rw [hx]
  obtain ⟨e1, e2⟩ := be_bl (v := v) h0 hM
  refine q_cI_of (fun y h' => y = nI (tx_bl v w) ∧ h' = h) (q_Ct_mono (z_below (d := d - 1) (by omega) (by omega) (v := v) (m := nI w) (nI_ne0 h0 hM)) (fun o h' hq => ?_)) (by omega) (q_lcle (by omega) (by omega)) (by omega) (by omega) trivial (fun y h' hp => ?_)
  · obtain ⟨y, y1, y2, y3⟩ := hq
    exact ⟨y, y1, y2.trans e1, y3⟩
  · rw [hp.1, hp.2]
    exact hC e2
end BARN2
