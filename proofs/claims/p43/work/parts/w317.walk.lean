set_option maxHeartbeats 4000000 in
theorem ct_X7_blame_450 {g : q_G} {t : Nat} {m : Nat} {z : Nat} {N : Nat} {ext : Nat → q_Sh} {rx : Nat → Nat → Option Nat} {L : Nat → Nat → Int64} {d : Nat} (hd : 1 ≤ d)  {I : Nat → Nat → Int32} {E : Nat → Nat → Option Nat} {x1 : Int32} {x2 : Int32} {r0 : (Nat → Int32)} (hf : f_X7_blame (I 450) x1 x2 = some r0) : q_Ct g m_X7_blame d 0 0 [] [.ref 450, .int x1, .int x2] (q_hp (t, 0, m, z, N, ext, rx, L) I E) (fun o h' => o = .inl none ∧ h' = q_hp (t, 0, m, z, N, ext, rx, L) (q_ws I [(450, r0)]) (q_ws E [])) := by
  rw [f_X7_blame] at hf
  refine q_Ct_of ok_X7_blame (Nat.le_of_ble_eq_true rfl) ?_ _ rfl rfl
  change q_J g m_X7_blame d 0 0 _ [] _ 0 0 (q_kc (t, 0, m, z, N, ext, rx, L) I E 0 [some (.ref 450), some (.int x1), some (.int x2)] [] [] [])
  refine q_blf 2 [] (a := q_kc (t, 0, m, z, N, ext, rx, L) I E 9 [some (.ref 450), some (.int x1), some (.int x2)] [] [] []) (b := q_kc (t, 0, m, z, N, ext, rx, L) I E 3 [some (.ref 450), some (.int x1), some (.int x2)] [] [] []) (P := ¬ ((I 450) 4) = 0) ok_X7_blame rfl q_cn (fun h1 => ?_) (fun h1 => ?_)
  · have hf := q_ip h1 hf
    cases hf
    exact q_krv ok_X7_blame rfl rfl (Nat.le_of_ble_eq_true rfl) (Nat.le_of_ble_eq_true rfl) ⟨rfl, q_hpe (q_pdw [450] rfl rfl) (q_pdw [] rfl rfl)⟩
  · have hf := q_in h1 hf
    refine q_blk 6 [] (c' := q_kc (t, 0, m, z, N, ext, rx, L) I E 9 [some (.ref 450), some (.int x1), some (.int x2)] [] [(450, (q_up (q_up (I 450) 4 x1) 5 x2))] []) ok_X7_blame rfl q_cn ?_
    cases hf
    exact q_krv ok_X7_blame rfl rfl (Nat.le_of_ble_eq_true rfl) (Nat.le_of_ble_eq_true rfl) ⟨rfl, q_hpe (q_pdw [450] rfl rfl) (q_pdw [] rfl rfl)⟩
set_option maxHeartbeats 4000000 in
theorem ct_X7_readHook_450 {g : q_G} {t : Nat} {m : Nat} {z : Nat} {N : Nat} {ext : Nat → q_Sh} {rx : Nat → Nat → Option Nat} {L : Nat → Nat → Int64} {d : Nat} (hd : 3 ≤ d)  {I : Nat → Nat → Int32} {E : Nat → Nat → Option Nat} {r0 : Int32 × (Nat → Int32)} (hf : f_X7_readHook (I 426) (I 450) (I 451) (I 452) (I 456) (E 453) = some r0) : q_Ct g m_X7_readHook d 0 0 [] [.ref 450] (q_hp (t, 0, m, z, N, ext, rx, L) I E) (fun o h' => o = .inl (some (.int r0.1)) ∧ h' = q_hp (t, 0, m, z, N, ext, rx, L) (q_ws I [(450, r0.2)]) (q_ws E [])) := by
  rw [f_X7_readHook] at hf
  refine q_Ct_of ok_X7_readHook (Nat.le_of_ble_eq_true rfl) ?_ _ rfl rfl
  change q_J g m_X7_readHook d 0 0 _ [] _ 0 0 (q_kc (t, 0, m, z, N, ext, rx, L) I E 0 [some (.ref 450), none] [] [] [])
  refine q_blk 1 [] (c' := q_kc (t, 0, m, z, N, ext, rx, L) I E 1 [some (.ref 450), none] [.ref 450] [] []) ok_X7_readHook rfl q_cn ?_
  obtain ⟨r1, hr1, hf⟩ := q_bd hf
  obtain ⟨u2, hu3, hf⟩ := q_bd hf
  refine q_kV (M2 := m_X7_sign) (As := []) (b := 450) (v2 := some (.ref r1)) ok_X7_readHook ok_X7_sign cv_X7_sign (ct_X7_sign_450 (d := 2) (Nat.le_refl _) hr1) rfl rfl (Or.inl rfl) rfl rfl rfl rfl (Nat.le_trans (Nat.le_of_ble_eq_true rfl) hd) (Nat.le_of_ble_eq_true rfl) (Nat.le_of_ble_eq_true rfl) (Nat.le_of_ble_eq_true rfl) (fun x hx => absurd hx List.not_mem_nil) (q_nmL0 _) (q_nmS0 _) rfl (pos' := 2) (st' := [.ref r1]) (lI' := []) (lE' := []) rfl rfl rfl rfl ?_
  refine q_blk 1 [] (c' := q_kc (t, 0, m, z, N, ext, rx, L) I E 3 [some (.ref 450), none] [.ref 3, .ref r1] [] []) ok_X7_readHook rfl q_cn ?_
  refine q_o_acmp_eq ok_X7_readHook rfl (q_e49_lt hu3) (Nat.lt_of_lt_of_le (Nat.lt_succ_self _) (Nat.le_of_ble_eq_true rfl)) (fun h4 => ?_) (fun h4 => ?_)
  · have hf := q_ip h4 hf
    refine q_blk 5 [] (c' := q_kc (t, 0, m, z, N, ext, rx, L) I E 13 [some (.ref 450), none] [.int ((I 450) 3), .ref 452, .ref 450] [] []) ok_X7_readHook rfl q_cn ?_
    obtain ⟨r5, hr5, hf⟩ := q_bd hf
    refine q_kV (M2 := m_X11_value) (As := [.int ((I 450) 3)]) (b := 452) (v2 := some (.int r5)) ok_X7_readHook ok_X11_value cv_X11_value (ct_X11_value_452 (d := 1) (Nat.le_refl _) hr5) rfl rfl (Or.inl rfl) rfl rfl rfl rfl (Nat.le_trans (Nat.le_of_ble_eq_true rfl) hd) (Nat.le_of_ble_eq_true rfl) (Nat.le_of_ble_eq_true rfl) (Nat.le_of_ble_eq_true rfl) (fun x hx => absurd hx List.not_mem_nil) (q_nmL0 _) (q_nmS0 _) rfl (pos' := 14) (st' := [.int r5, .ref 450]) (lI' := []) (lE' := []) rfl rfl rfl rfl ?_
    obtain ⟨r6, hr6, hf⟩ := q_bd hf
    refine q_kV (M2 := m_X7_hookNamed) (As := [.int r5]) (b := 450) (v2 := some (.int r6)) ok_X7_readHook ok_X7_hookNamed cv_X7_hookNamed (ct_X7_hookNamed_450 (d := 1) (Nat.le_refl _) hr6) rfl rfl (Or.inl rfl) rfl rfl rfl rfl (Nat.le_trans (Nat.le_of_ble_eq_true rfl) hd) (Nat.le_of_ble_eq_true rfl) (Nat.le_of_ble_eq_true rfl) (Nat.le_of_ble_eq_true rfl) (fun x hx => absurd hx List.not_mem_nil) (q_nmL0 _) (q_nmS0 _) rfl (pos' := 15) (st' := [.int r6]) (lI' := []) (lE' := []) rfl rfl rfl rfl ?_
    refine q_blf 3 [] (a := q_kc (t, 0, m, z, N, ext, rx, L) I E 24 [some (.ref 450), some (.int r6)] [] [] []) (b := q_kc (t, 0, m, z, N, ext, rx, L) I E 19 [some (.ref 450), some (.int r6)] [] [] []) (P := ¬ r6 = (-1 : Int32)) ok_X7_readHook rfl q_cn (fun h7 => ?_) (fun h7 => ?_)
    · have hf := q_ip h7 hf
      refine q_blk 8 [] (c' := q_kc (t, 0, m, z, N, ext, rx, L) I E 32 [some (.ref 450), some (.int r6)] [.int (0 : Int32), .int r6] [(450, (q_up (I 450) 3 (((I 450) 3) + (1 : Int32))))] []) ok_X7_readHook rfl q_cn ?_
      refine q_kmx (pos' := 33) ok_X7_readHook rfl rfl (Nat.le_trans (Nat.le_of_ble_eq_true rfl) hd) (Nat.le_of_ble_eq_true rfl) (Nat.le_of_ble_eq_true rfl) (Nat.le_of_ble_eq_true rfl) rfl ?_
      cases hf
      exact q_kri ok_X7_readHook rfl rfl rfl (Nat.le_of_ble_eq_true rfl) (Nat.le_of_ble_eq_true rfl) ⟨rfl, q_hpe (q_pdw [450] rfl rfl) (q_pdw [] rfl rfl)⟩
    · have hf := q_in h7 hf
      refine q_blk 4 [] (c' := q_kc (t, 0, m, z, N, ext, rx, L) I E 23 [some (.ref 450), some (.int r6)] [.int ((I 450) 3), .int (3 : Int32), .ref 450] [] []) ok_X7_readHook rfl q_cn ?_
      obtain ⟨r8, hr8, hf⟩ := q_bd hf
      refine q_kV (M2 := m_X7_blame) (As := [.int (3 : Int32), .int ((I 450) 3)]) (b := 450) (v2 := none) ok_X7_readHook ok_X7_blame cv_X7_blame (ct_X7_blame_450 (d := 1) (Nat.le_refl _) hr8) rfl rfl (Or.inl rfl) rfl rfl rfl rfl (Nat.le_trans (Nat.le_of_ble_eq_true rfl) hd) (Nat.le_of_ble_eq_true rfl) (Nat.le_of_ble_eq_true rfl) (Nat.le_of_ble_eq_true rfl) (fun x hx => absurd hx List.not_mem_nil) (q_nmL0 _) (q_nmS0 _) rfl (pos' := 24) (st' := []) (lI' := [(450, r8)]) (lE' := []) rfl rfl (q_mgw rfl rfl) rfl ?_
      refine q_blk 8 [] (c' := q_kc (t, 0, m, z, N, ext, rx, L) I E 32 [some (.ref 450), some (.int r6)] [.int (0 : Int32), .int r6] [(450, (q_up r8 3 ((r8 3) + (1 : Int32))))] []) ok_X7_readHook rfl q_cn ?_
      refine q_kmx (pos' := 33) ok_X7_readHook rfl rfl (Nat.le_trans (Nat.le_of_ble_eq_true rfl) hd) (Nat.le_of_ble_eq_true rfl) (Nat.le_of_ble_eq_true rfl) (Nat.le_of_ble_eq_true rfl) rfl ?_
      cases hf
      exact q_kri ok_X7_readHook rfl rfl rfl (Nat.le_of_ble_eq_true rfl) (Nat.le_of_ble_eq_true rfl) ⟨rfl, q_hpe (q_pdw [450] rfl rfl) (q_pdw [] rfl rfl)⟩
  · have hf := q_in h4 hf
    refine q_blk 1 [] (c' := q_kc (t, 0, m, z, N, ext, rx, L) I E 5 [some (.ref 450), none] [.ref 450] [] []) ok_X7_readHook rfl q_cn ?_
    obtain ⟨r9, hr9, hf⟩ := q_bd hf
    refine q_kV (M2 := m_X7_fail) (As := []) (b := 450) (v2 := none) ok_X7_readHook ok_X7_fail cv_X7_fail (ct_X7_fail_450 (d := 1) (Nat.le_refl _) hr9) rfl rfl (Or.inl rfl) rfl rfl rfl rfl (Nat.le_trans (Nat.le_of_ble_eq_true rfl) hd) (Nat.le_of_ble_eq_true rfl) (Nat.le_of_ble_eq_true rfl) (Nat.le_of_ble_eq_true rfl) (fun x hx => absurd hx List.not_mem_nil) (q_nmL0 _) (q_nmS0 _) rfl (pos' := 6) (st' := []) (lI' := [(450, r9)]) (lE' := []) rfl rfl (q_mgw rfl rfl) rfl ?_
    refine q_blk 1 [] (c' := q_kc (t, 0, m, z, N, ext, rx, L) I E 7 [some (.ref 450), none] [.int (0 : Int32)] [(450, r9)] []) ok_X7_readHook rfl q_cn ?_
    cases hf
    exact q_kri ok_X7_readHook rfl rfl rfl (Nat.le_of_ble_eq_true rfl) (Nat.le_of_ble_eq_true rfl) ⟨rfl, q_hpe (q_pdw [450] rfl rfl) (q_pdw [] rfl rfl)⟩
set_option maxHeartbeats 4000000 in
theorem ct_X7_readValue_450 {g : q_G} {t : Nat} {m : Nat} {z : Nat} {N : Nat} {ext : Nat → q_Sh} {rx : Nat → Nat → Option Nat} {L : Nat → Nat → Int64} {d dR : Nat} (hd : dR + 5 ≤ d)  {r_readValue : (Nat → Int32) → (Nat → Int32) → (Nat → Int32) → (Nat → Int32) → (Nat → Int32) → (Nat → Int32) → (Nat → Option Nat) → (Nat → Option Nat) → Int32 → Option ((Nat → Int32) × (Nat → Int32) × (Nat → Int32) × (Nat → Option Nat))} (hq_readValue : ∀ {I : Nat → Nat → Int32} {E : Nat → Nat → Option Nat} {dd : Int32} {r0 : (Nat → Int32) × (Nat → Int32) × (Nat → Int32) × (Nat → Option Nat)}, r_readValue ((I 426)) ((I 429)) ((I 450)) ((I 451)) ((I 452)) ((I 456)) ((E 428)) ((E 453)) dd = some r0 → q_Ct g m_X7_readValue dR 0 0 [] [.ref 450, .int dd] (q_hp (t, 0, m, z, N, ext, rx, L) I E) (fun o h' => o = .inl none ∧ h' = q_hp (t, 0, m, z, N, ext, rx, L) (q_ws I [(426, r0.1), (429, r0.2.1), (450, r0.2.2.1)]) (q_ws E [(428, r0.2.2.2)]))) {r_readSum : (Nat → Int32) → (Nat → Int32) → (Nat → Int32) → (Nat → Int32) → (Nat → Int32) → (Nat → Int32) → (Nat → Option Nat) → (Nat → Option Nat) → Int32 → Option ((Nat → Int32) × (Nat → Int32) × (Nat → Int32) × (Nat → Option Nat))} (hq_readSum : ∀ {I : Nat → Nat → Int32} {E : Nat → Nat → Option Nat} {dd : Int32} {r0 : (Nat → Int32) × (Nat → Int32) × (Nat → Int32) × (Nat → Option Nat)}, r_readSum ((I 426)) ((I 429)) ((I 450)) ((I 451)) ((I 452)) ((I 456)) ((E 428)) ((E 453)) dd = some r0 → q_Ct g m_X7_readSum dR 0 0 [] [.ref 450, .int dd] (q_hp (t, 0, m, z, N, ext, rx, L) I E) (fun o h' => o = .inl none ∧ h' = q_hp (t, 0, m, z, N, ext, rx, L) (q_ws I [(426, r0.1), (429, r0.2.1), (450, r0.2.2.1)]) (q_ws E [(428, r0.2.2.2)]))){I : Nat → Nat → Int32} {E : Nat → Nat → Option Nat} {x1 : Int32} {r0 : (Nat → Int32) × (Nat → Int32) × (Nat → Int32) × (Nat → Option Nat)} (hf : f_X7_readValue r_readValue r_readSum (I 426) (I 429) (I 450) (I 451) (I 452) (I 456) (E 428) (E 453) x1 = some r0) : q_Ct g m_X7_readValue d 0 0 [] [.ref 450, .int x1] (q_hp (t, 0, m, z, N, ext, rx, L) I E) (fun o h' => o = .inl none ∧ h' = q_hp (t, 0, m, z, N, ext, rx, L) (q_ws I [(426, r0.1), (429, r0.2.1), (450, r0.2.2.1)]) (q_ws E [(428, r0.2.2.2)])) := by
  rw [f_X7_readValue] at hf
  refine q_Ct_of ok_X7_readValue (Nat.le_of_ble_eq_true rfl) ?_ _ rfl rfl
  change q_J g m_X7_readValue d 0 0 _ [] _ 0 0 (q_kc (t, 0, m, z, N, ext, rx, L) I E 0 [some (.ref 450), some (.int x1), none] [] [] [])
  refine q_blk 1 [] (c' := q_kc (t, 0, m, z, N, ext, rx, L) I E 1 [some (.ref 450), some (.int x1), none] [.ref 450] [] []) ok_X7_readValue rfl q_cn ?_
  obtain ⟨r1, hr1, hf⟩ := q_bd hf
  obtain ⟨u2, hu3, hf⟩ := q_bd hf
  refine q_kV (M2 := m_X7_sign) (As := []) (b := 450) (v2 := some (.ref r1)) ok_X7_readValue ok_X7_sign cv_X7_sign (ct_X7_sign_450 (d := 2) (Nat.le_refl _) hr1) rfl rfl (Or.inl rfl) rfl rfl rfl rfl (by omega) (Nat.le_of_ble_eq_true rfl) (Nat.le_of_ble_eq_true rfl) (Nat.le_of_ble_eq_true rfl) (fun x hx => absurd hx List.not_mem_nil) (q_nmL0 _) (q_nmS0 _) rfl (pos' := 2) (st' := [.ref r1]) (lI' := []) (lE' := []) rfl rfl rfl rfl ?_
  refine q_blk 3 [] (c' := q_kc (t, 0, m, z, N, ext, rx, L) I E 5 [some (.ref 450), some (.int x1), some (.ref r1)] [.ref r1, .ref 50] [] []) ok_X7_readValue rfl q_cn ?_
  refine q_kord (pos' := 6) ok_X7_readValue rfl rfl (q_e49_lt hu3) (by omega) (Nat.le_of_ble_eq_true rfl) (Nat.le_of_ble_eq_true rfl) (Nat.le_of_ble_eq_true rfl) rfl ?_
  obtain ⟨j4, hj4, hf⟩ := q_bd hf
  refine q_blk 1 [j4] (c' := q_kc (t, 0, m, z, N, ext, rx, L) I E 7 [some (.ref 450), some (.int x1), some (.ref r1)] [.int (q_sw j4)] [] []) ok_X7_readValue rfl (q_cc hj4 q_cn) ?_
  refine q_ksw [8, 24, 24, 24, 24, 24, 36, 36, 53, 68, 82, 82] ok_X7_readValue rfl (dp := 93) rfl (fun ix t9 ht9 hx9 => ?_) (fun hx9 => ?_) (by decide) (by decide)
  · match ix, ht9 with
    | 0, ht9 =>
      have hx9 : (q_sw j4) = 9 := hx9
      cases ht9
      have hf := q_ip hx9 hf
      refine q_blk 7 [] (c' := q_kc (t, 0, m, z, N, ext, rx, L) I E 15 [some (.ref 450), some (.int x1), some (.ref r1)] [.int ((I 450) 3), .ref 452, .ref r1, .ref 426] [] []) ok_X7_readValue rfl q_cn ?_
      obtain ⟨r5, hr5, hf⟩ := q_bd hf
      refine q_kV (M2 := m_X11_value) (As := [.int ((I 450) 3)]) (b := 452) (v2 := some (.int r5)) ok_X7_readValue ok_X11_value cv_X11_value (ct_X11_value_452 (d := 1) (Nat.le_refl _) hr5) rfl rfl (Or.inl rfl) rfl rfl rfl rfl (by omega) (Nat.le_of_ble_eq_true rfl) (Nat.le_of_ble_eq_true rfl) (Nat.le_of_ble_eq_true rfl) (fun x hx => absurd hx List.not_mem_nil) (q_nmL0 _) (q_nmS0 _) rfl (pos' := 16) (st' := [.int r5, .ref r1, .ref 426]) (lI' := []) (lE' := []) rfl rfl rfl rfl ?_
      obtain ⟨r6, hr6, hf⟩ := q_bd hf
      refine q_kV (M2 := m_X6_addOrder) (As := [.ref r1, .int r5]) (b := 426) (v2 := none) ok_X7_readValue ok_X6_addOrder cv_X6_addOrder (ct_X6_addOrder_426 (d := 1) (Nat.le_refl _) hr6) rfl rfl (Or.inl rfl) rfl rfl rfl rfl (by omega) (Nat.le_of_ble_eq_true rfl) (Nat.le_of_ble_eq_true rfl) (Nat.le_of_ble_eq_true rfl) (fun x hx => absurd hx List.not_mem_nil) (q_nmL0 _) (q_nmS0 _) rfl (pos' := 17) (st' := []) (lI' := [(426, r6.1), (429, r6.2.1)]) (lE' := [(428, r6.2.2)]) rfl rfl (q_mgw rfl rfl) (q_mgw rfl rfl) ?_
      refine q_blk 7 [] (c' := q_kc (t, 0, m, z, N, ext, rx, L) I E 95 [some (.ref 450), some (.int x1), some (.ref r1)] [] [(426, r6.1), (429, r6.2.1), (450, (q_up (I 450) 3 (((I 450) 3) + (1 : Int32))))] [(428, r6.2.2)]) ok_X7_readValue rfl q_cn ?_
      cases hf
      exact q_krv ok_X7_readValue rfl rfl (Nat.le_of_ble_eq_true rfl) (Nat.le_of_ble_eq_true rfl) ⟨rfl, q_hpe (q_pdw [426, 429, 450] rfl rfl) (q_pdw [428] rfl rfl)⟩
    | 1, ht9 =>
      have hx9 : (q_sw j4) = 10 := hx9
      cases ht9
      have hf := q_in (fun hz9 => absurd (hx9.symm.trans hz9) (by decide)) hf
      have hf := q_ip hx9 hf
      refine q_blk 4 [] (c' := q_kc (t, 0, m, z, N, ext, rx, L) I E 28 [some (.ref 450), some (.int x1), some (.ref r1)] [.int (0 : Int32), .ref r1, .ref 426] [] []) ok_X7_readValue rfl q_cn ?_
      obtain ⟨r7, hr7, hf⟩ := q_bd hf
      refine q_kV (M2 := m_X6_addOrder) (As := [.ref r1, .int (0 : Int32)]) (b := 426) (v2 := none) ok_X7_readValue ok_X6_addOrder cv_X6_addOrder (ct_X6_addOrder_426 (d := 1) (Nat.le_refl _) hr7) rfl rfl (Or.inl rfl) rfl rfl rfl rfl (by omega) (Nat.le_of_ble_eq_true rfl) (Nat.le_of_ble_eq_true rfl) (Nat.le_of_ble_eq_true rfl) (fun x hx => absurd hx List.not_mem_nil) (q_nmL0 _) (q_nmS0 _) rfl (pos' := 29) (st' := []) (lI' := [(426, r7.1), (429, r7.2.1)]) (lE' := [(428, r7.2.2)]) rfl rfl (q_mgw rfl rfl) (q_mgw rfl rfl) ?_
      refine q_blk 7 [] (c' := q_kc (t, 0, m, z, N, ext, rx, L) I E 95 [some (.ref 450), some (.int x1), some (.ref r1)] [] [(426, r7.1), (429, r7.2.1), (450, (q_up (I 450) 3 (((I 450) 3) + (1 : Int32))))] [(428, r7.2.2)]) ok_X7_readValue rfl q_cn ?_
      cases hf
      exact q_krv ok_X7_readValue rfl rfl (Nat.le_of_ble_eq_true rfl) (Nat.le_of_ble_eq_true rfl) ⟨rfl, q_hpe (q_pdw [426, 429, 450] rfl rfl) (q_pdw [428] rfl rfl)⟩
    | 2, ht9 =>
      have hx9 : (q_sw j4) = 11 := hx9
      cases ht9
      have hf := q_in (fun hz9 => absurd (hx9.symm.trans hz9) (by decide)) hf
      have hf := q_in (fun hz9 => absurd (hx9.symm.trans hz9) (by decide)) hf
      have hf := q_ip hx9 hf
      refine q_blk 4 [] (c' := q_kc (t, 0, m, z, N, ext, rx, L) I E 28 [some (.ref 450), some (.int x1), some (.ref r1)] [.int (0 : Int32), .ref r1, .ref 426] [] []) ok_X7_readValue rfl q_cn ?_
      obtain ⟨r8, hr8, hf⟩ := q_bd hf
      refine q_kV (M2 := m_X6_addOrder) (As := [.ref r1, .int (0 : Int32)]) (b := 426) (v2 := none) ok_X7_readValue ok_X6_addOrder cv_X6_addOrder (ct_X6_addOrder_426 (d := 1) (Nat.le_refl _) hr8) rfl rfl (Or.inl rfl) rfl rfl rfl rfl (by omega) (Nat.le_of_ble_eq_true rfl) (Nat.le_of_ble_eq_true rfl) (Nat.le_of_ble_eq_true rfl) (fun x hx => absurd hx List.not_mem_nil) (q_nmL0 _) (q_nmS0 _) rfl (pos' := 29) (st' := []) (lI' := [(426, r8.1), (429, r8.2.1)]) (lE' := [(428, r8.2.2)]) rfl rfl (q_mgw rfl rfl) (q_mgw rfl rfl) ?_
      refine q_blk 7 [] (c' := q_kc (t, 0, m, z, N, ext, rx, L) I E 95 [some (.ref 450), some (.int x1), some (.ref r1)] [] [(426, r8.1), (429, r8.2.1), (450, (q_up (I 450) 3 (((I 450) 3) + (1 : Int32))))] [(428, r8.2.2)]) ok_X7_readValue rfl q_cn ?_
      cases hf
      exact q_krv ok_X7_readValue rfl rfl (Nat.le_of_ble_eq_true rfl) (Nat.le_of_ble_eq_true rfl) ⟨rfl, q_hpe (q_pdw [426, 429, 450] rfl rfl) (q_pdw [428] rfl rfl)⟩
    | 3, ht9 =>
      have hx9 : (q_sw j4) = 12 := hx9
      cases ht9
      have hf := q_in (fun hz9 => absurd (hx9.symm.trans hz9) (by decide)) hf
      have hf := q_in (fun hz9 => absurd (hx9.symm.trans hz9) (by decide)) hf
      have hf := q_in (fun hz9 => absurd (hx9.symm.trans hz9) (by decide)) hf
      have hf := q_ip hx9 hf
      refine q_blk 4 [] (c' := q_kc (t, 0, m, z, N, ext, rx, L) I E 28 [some (.ref 450), some (.int x1), some (.ref r1)] [.int (0 : Int32), .ref r1, .ref 426] [] []) ok_X7_readValue rfl q_cn ?_
      obtain ⟨r9, hr9, hf⟩ := q_bd hf
      refine q_kV (M2 := m_X6_addOrder) (As := [.ref r1, .int (0 : Int32)]) (b := 426) (v2 := none) ok_X7_readValue ok_X6_addOrder cv_X6_addOrder (ct_X6_addOrder_426 (d := 1) (Nat.le_refl _) hr9) rfl rfl (Or.inl rfl) rfl rfl rfl rfl (by omega) (Nat.le_of_ble_eq_true rfl) (Nat.le_of_ble_eq_true rfl) (Nat.le_of_ble_eq_true rfl) (fun x hx => absurd hx List.not_mem_nil) (q_nmL0 _) (q_nmS0 _) rfl (pos' := 29) (st' := []) (lI' := [(426, r9.1), (429, r9.2.1)]) (lE' := [(428, r9.2.2)]) rfl rfl (q_mgw rfl rfl) (q_mgw rfl rfl) ?_
      refine q_blk 7 [] (c' := q_kc (t, 0, m, z, N, ext, rx, L) I E 95 [some (.ref 450), some (.int x1), some (.ref r1)] [] [(426, r9.1), (429, r9.2.1), (450, (q_up (I 450) 3 (((I 450) 3) + (1 : Int32))))] [(428, r9.2.2)]) ok_X7_readValue rfl q_cn ?_
      cases hf
      exact q_krv ok_X7_readValue rfl rfl (Nat.le_of_ble_eq_true rfl) (Nat.le_of_ble_eq_true rfl) ⟨rfl, q_hpe (q_pdw [426, 429, 450] rfl rfl) (q_pdw [428] rfl rfl)⟩
    | 4, ht9 =>
      have hx9 : (q_sw j4) = 13 := hx9
      cases ht9
      have hf := q_in (fun hz9 => absurd (hx9.symm.trans hz9) (by decide)) hf
      have hf := q_in (fun hz9 => absurd (hx9.symm.trans hz9) (by decide)) hf
      have hf := q_in (fun hz9 => absurd (hx9.symm.trans hz9) (by decide)) hf
      have hf := q_in (fun hz9 => absurd (hx9.symm.trans hz9) (by decide)) hf
      have hf := q_ip hx9 hf
      refine q_blk 4 [] (c' := q_kc (t, 0, m, z, N, ext, rx, L) I E 28 [some (.ref 450), some (.int x1), some (.ref r1)] [.int (0 : Int32), .ref r1, .ref 426] [] []) ok_X7_readValue rfl q_cn ?_
      obtain ⟨r10, hr10, hf⟩ := q_bd hf
      refine q_kV (M2 := m_X6_addOrder) (As := [.ref r1, .int (0 : Int32)]) (b := 426) (v2 := none) ok_X7_readValue ok_X6_addOrder cv_X6_addOrder (ct_X6_addOrder_426 (d := 1) (Nat.le_refl _) hr10) rfl rfl (Or.inl rfl) rfl rfl rfl rfl (by omega) (Nat.le_of_ble_eq_true rfl) (Nat.le_of_ble_eq_true rfl) (Nat.le_of_ble_eq_true rfl) (fun x hx => absurd hx List.not_mem_nil) (q_nmL0 _) (q_nmS0 _) rfl (pos' := 29) (st' := []) (lI' := [(426, r10.1), (429, r10.2.1)]) (lE' := [(428, r10.2.2)]) rfl rfl (q_mgw rfl rfl) (q_mgw rfl rfl) ?_
      refine q_blk 7 [] (c' := q_kc (t, 0, m, z, N, ext, rx, L) I E 95 [some (.ref 450), some (.int x1), some (.ref r1)] [] [(426, r10.1), (429, r10.2.1), (450, (q_up (I 450) 3 (((I 450) 3) + (1 : Int32))))] [(428, r10.2.2)]) ok_X7_readValue rfl q_cn ?_
      cases hf
      exact q_krv ok_X7_readValue rfl rfl (Nat.le_of_ble_eq_true rfl) (Nat.le_of_ble_eq_true rfl) ⟨rfl, q_hpe (q_pdw [426, 429, 450] rfl rfl) (q_pdw [428] rfl rfl)⟩
    | 5, ht9 =>
      have hx9 : (q_sw j4) = 14 := hx9
      cases ht9
      have hf := q_in (fun hz9 => absurd (hx9.symm.trans hz9) (by decide)) hf
      have hf := q_in (fun hz9 => absurd (hx9.symm.trans hz9) (by decide)) hf
      have hf := q_in (fun hz9 => absurd (hx9.symm.trans hz9) (by decide)) hf
      have hf := q_in (fun hz9 => absurd (hx9.symm.trans hz9) (by decide)) hf
      have hf := q_in (fun hz9 => absurd (hx9.symm.trans hz9) (by decide)) hf
      have hf := q_ip hx9 hf
      refine q_blk 4 [] (c' := q_kc (t, 0, m, z, N, ext, rx, L) I E 28 [some (.ref 450), some (.int x1), some (.ref r1)] [.int (0 : Int32), .ref r1, .ref 426] [] []) ok_X7_readValue rfl q_cn ?_
      obtain ⟨r11, hr11, hf⟩ := q_bd hf
      refine q_kV (M2 := m_X6_addOrder) (As := [.ref r1, .int (0 : Int32)]) (b := 426) (v2 := none) ok_X7_readValue ok_X6_addOrder cv_X6_addOrder (ct_X6_addOrder_426 (d := 1) (Nat.le_refl _) hr11) rfl rfl (Or.inl rfl) rfl rfl rfl rfl (by omega) (Nat.le_of_ble_eq_true rfl) (Nat.le_of_ble_eq_true rfl) (Nat.le_of_ble_eq_true rfl) (fun x hx => absurd hx List.not_mem_nil) (q_nmL0 _) (q_nmS0 _) rfl (pos' := 29) (st' := []) (lI' := [(426, r11.1), (429, r11.2.1)]) (lE' := [(428, r11.2.2)]) rfl rfl (q_mgw rfl rfl) (q_mgw rfl rfl) ?_
      refine q_blk 7 [] (c' := q_kc (t, 0, m, z, N, ext, rx, L) I E 95 [some (.ref 450), some (.int x1), some (.ref r1)] [] [(426, r11.1), (429, r11.2.1), (450, (q_up (I 450) 3 (((I 450) 3) + (1 : Int32))))] [(428, r11.2.2)]) ok_X7_readValue rfl q_cn ?_
      cases hf
      exact q_krv ok_X7_readValue rfl rfl (Nat.le_of_ble_eq_true rfl) (Nat.le_of_ble_eq_true rfl) ⟨rfl, q_hpe (q_pdw [426, 429, 450] rfl rfl) (q_pdw [428] rfl rfl)⟩
    | 6, ht9 =>
      have hx9 : (q_sw j4) = 15 := hx9
      cases ht9
      have hf := q_in (fun hz9 => absurd (hx9.symm.trans hz9) (by decide)) hf
      have hf := q_in (fun hz9 => absurd (hx9.symm.trans hz9) (by decide)) hf
      have hf := q_in (fun hz9 => absurd (hx9.symm.trans hz9) (by decide)) hf
      have hf := q_in (fun hz9 => absurd (hx9.symm.trans hz9) (by decide)) hf
      have hf := q_in (fun hz9 => absurd (hx9.symm.trans hz9) (by decide)) hf
      have hf := q_in (fun hz9 => absurd (hx9.symm.trans hz9) (by decide)) hf
      have hf := q_ip hx9 hf
      refine q_blk 8 [] (c' := q_kc (t, 0, m, z, N, ext, rx, L) I E 44 [some (.ref 450), some (.int x1), some (.ref r1)] [.ref 18, .ref 450] [(450, (q_up (I 450) 3 (((I 450) 3) + (1 : Int32))))] []) ok_X7_readValue rfl q_cn ?_
      obtain ⟨r12, hr12, hf⟩ := q_bd hf
      refine q_kV (M2 := m_X7_take) (As := [.ref 18]) (b := 450) (v2 := some (.int (q_bz r12.1))) ok_X7_readValue ok_X7_take cv_X7_take (ct_X7_take_450 (d := 3) (Nat.le_refl _) hr12) rfl rfl (Or.inl rfl) rfl rfl rfl rfl (by omega) (Nat.le_of_ble_eq_true rfl) (Nat.le_of_ble_eq_true rfl) (Nat.le_of_ble_eq_true rfl) (fun x hx => absurd hx List.not_mem_nil) (q_nmL0 _) (q_nmS0 _) rfl (pos' := 45) (st' := [.int (q_bz r12.1)]) (lI' := [(450, r12.2)]) (lE' := []) rfl rfl (q_mgw rfl rfl) rfl ?_
      refine q_blk 5 [] (c' := q_kc (t, 0, m, z, N, ext, rx, L) I E 50 [some (.ref 450), some (.int x1), some (.ref r1)] [.ref 450, .ref r1, .ref 426] [(450, r12.2)] []) ok_X7_readValue rfl q_cn ?_
      obtain ⟨r13, hr13, hf⟩ := q_bd hf
      refine q_kV (M2 := m_X7_readHook) (As := []) (b := 450) (v2 := some (.int r13.1)) ok_X7_readValue ok_X7_readHook cv_X7_readHook (ct_X7_readHook_450 (d := 3) (Nat.le_refl _) hr13) rfl rfl (Or.inl rfl) rfl rfl rfl rfl (by omega) (Nat.le_of_ble_eq_true rfl) (Nat.le_of_ble_eq_true rfl) (Nat.le_of_ble_eq_true rfl) (fun x hx => absurd hx List.not_mem_nil) (q_nmL0 _) (q_nmS0 _) rfl (pos' := 51) (st' := [.int r13.1, .ref r1, .ref 426]) (lI' := [(450, r13.2)]) (lE' := []) rfl rfl (q_mgw rfl rfl) rfl ?_
      obtain ⟨r14, hr14, hf⟩ := q_bd hf
      refine q_kV (M2 := m_X6_addOrder) (As := [.ref r1, .int r13.1]) (b := 426) (v2 := none) ok_X7_readValue ok_X6_addOrder cv_X6_addOrder (ct_X6_addOrder_426 (d := 1) (Nat.le_refl _) hr14) rfl rfl (Or.inl rfl) rfl rfl rfl rfl (by omega) (Nat.le_of_ble_eq_true rfl) (Nat.le_of_ble_eq_true rfl) (Nat.le_of_ble_eq_true rfl) (fun x hx => absurd hx List.not_mem_nil) (q_nmL0 _) (q_nmS0 _) rfl (pos' := 52) (st' := []) (lI' := [(426, r14.1), (429, r14.2.1), (450, r13.2)]) (lE' := [(428, r14.2.2)]) rfl rfl (q_mgw rfl rfl) (q_mgw rfl rfl) ?_
      refine q_blk 1 [] (c' := q_kc (t, 0, m, z, N, ext, rx, L) I E 95 [some (.ref 450), some (.int x1), some (.ref r1)] [] [(426, r14.1), (429, r14.2.1), (450, r13.2)] [(428, r14.2.2)]) ok_X7_readValue rfl q_cn ?_
      cases hf
      exact q_krv ok_X7_readValue rfl rfl (Nat.le_of_ble_eq_true rfl) (Nat.le_of_ble_eq_true rfl) ⟨rfl, q_hpe (q_pdw [426, 429, 450] rfl rfl) (q_pdw [428] rfl rfl)⟩
    | 7, ht9 =>
      have hx9 : (q_sw j4) = 16 := hx9
      cases ht9
      have hf := q_in (fun hz9 => absurd (hx9.symm.trans hz9) (by decide)) hf
      have hf := q_in (fun hz9 => absurd (hx9.symm.trans hz9) (by decide)) hf
      have hf := q_in (fun hz9 => absurd (hx9.symm.trans hz9) (by decide)) hf
      have hf := q_in (fun hz9 => absurd (hx9.symm.trans hz9) (by decide)) hf
      have hf := q_in (fun hz9 => absurd (hx9.symm.trans hz9) (by decide)) hf
      have hf := q_in (fun hz9 => absurd (hx9.symm.trans hz9) (by decide)) hf
      have hf := q_in (fun hz9 => absurd (hx9.symm.trans hz9) (by decide)) hf
      have hf := q_ip hx9 hf
      refine q_blk 8 [] (c' := q_kc (t, 0, m, z, N, ext, rx, L) I E 44 [some (.ref 450), some (.int x1), some (.ref r1)] [.ref 18, .ref 450] [(450, (q_up (I 450) 3 (((I 450) 3) + (1 : Int32))))] []) ok_X7_readValue rfl q_cn ?_
      obtain ⟨r15, hr15, hf⟩ := q_bd hf
      refine q_kV (M2 := m_X7_take) (As := [.ref 18]) (b := 450) (v2 := some (.int (q_bz r15.1))) ok_X7_readValue ok_X7_take cv_X7_take (ct_X7_take_450 (d := 3) (Nat.le_refl _) hr15) rfl rfl (Or.inl rfl) rfl rfl rfl rfl (by omega) (Nat.le_of_ble_eq_true rfl) (Nat.le_of_ble_eq_true rfl) (Nat.le_of_ble_eq_true rfl) (fun x hx => absurd hx List.not_mem_nil) (q_nmL0 _) (q_nmS0 _) rfl (pos' := 45) (st' := [.int (q_bz r15.1)]) (lI' := [(450, r15.2)]) (lE' := []) rfl rfl (q_mgw rfl rfl) rfl ?_
      refine q_blk 5 [] (c' := q_kc (t, 0, m, z, N, ext, rx, L) I E 50 [some (.ref 450), some (.int x1), some (.ref r1)] [.ref 450, .ref r1, .ref 426] [(450, r15.2)] []) ok_X7_readValue rfl q_cn ?_
      obtain ⟨r16, hr16, hf⟩ := q_bd hf
      refine q_kV (M2 := m_X7_readHook) (As := []) (b := 450) (v2 := some (.int r16.1)) ok_X7_readValue ok_X7_readHook cv_X7_readHook (ct_X7_readHook_450 (d := 3) (Nat.le_refl _) hr16) rfl rfl (Or.inl rfl) rfl rfl rfl rfl (by omega) (Nat.le_of_ble_eq_true rfl) (Nat.le_of_ble_eq_true rfl) (Nat.le_of_ble_eq_true rfl) (fun x hx => absurd hx List.not_mem_nil) (q_nmL0 _) (q_nmS0 _) rfl (pos' := 51) (st' := [.int r16.1, .ref r1, .ref 426]) (lI' := [(450, r16.2)]) (lE' := []) rfl rfl (q_mgw rfl rfl) rfl ?_
      obtain ⟨r17, hr17, hf⟩ := q_bd hf
      refine q_kV (M2 := m_X6_addOrder) (As := [.ref r1, .int r16.1]) (b := 426) (v2 := none) ok_X7_readValue ok_X6_addOrder cv_X6_addOrder (ct_X6_addOrder_426 (d := 1) (Nat.le_refl _) hr17) rfl rfl (Or.inl rfl) rfl rfl rfl rfl (by omega) (Nat.le_of_ble_eq_true rfl) (Nat.le_of_ble_eq_true rfl) (Nat.le_of_ble_eq_true rfl) (fun x hx => absurd hx List.not_mem_nil) (q_nmL0 _) (q_nmS0 _) rfl (pos' := 52) (st' := []) (lI' := [(426, r17.1), (429, r17.2.1), (450, r16.2)]) (lE' := [(428, r17.2.2)]) rfl rfl (q_mgw rfl rfl) (q_mgw rfl rfl) ?_
      refine q_blk 1 [] (c' := q_kc (t, 0, m, z, N, ext, rx, L) I E 95 [some (.ref 450), some (.int x1), some (.ref r1)] [] [(426, r17.1), (429, r17.2.1), (450, r16.2)] [(428, r17.2.2)]) ok_X7_readValue rfl q_cn ?_
      cases hf
      exact q_krv ok_X7_readValue rfl rfl (Nat.le_of_ble_eq_true rfl) (Nat.le_of_ble_eq_true rfl) ⟨rfl, q_hpe (q_pdw [426, 429, 450] rfl rfl) (q_pdw [428] rfl rfl)⟩
    | 8, ht9 =>
      have hx9 : (q_sw j4) = 17 := hx9
      cases ht9
      have hf := q_in (fun hz9 => absurd (hx9.symm.trans hz9) (by decide)) hf
      have hf := q_in (fun hz9 => absurd (hx9.symm.trans hz9) (by decide)) hf
      have hf := q_in (fun hz9 => absurd (hx9.symm.trans hz9) (by decide)) hf
      have hf := q_in (fun hz9 => absurd (hx9.symm.trans hz9) (by decide)) hf
      have hf := q_in (fun hz9 => absurd (hx9.symm.trans hz9) (by decide)) hf
      have hf := q_in (fun hz9 => absurd (hx9.symm.trans hz9) (by decide)) hf
      have hf := q_in (fun hz9 => absurd (hx9.symm.trans hz9) (by decide)) hf
      have hf := q_in (fun hz9 => absurd (hx9.symm.trans hz9) (by decide)) hf
      have hf := q_ip hx9 hf
      refine q_blk 2 [] (c' := q_kc (t, 0, m, z, N, ext, rx, L) I E 55 [some (.ref 450), some (.int x1), some (.ref r1)] [.int x1, .ref 450] [] []) ok_X7_readValue rfl q_cn ?_
      obtain ⟨r18, hr18, hf⟩ := q_bd hf
      refine q_kV (M2 := m_X7_takeDeeper) (As := [.int x1]) (b := 450) (v2 := some (.int (q_bz r18.1))) ok_X7_readValue ok_X7_takeDeeper cv_X7_takeDeeper (ct_X7_takeDeeper_450 (d := 2) (Nat.le_refl _) hr18) rfl rfl (Or.inl rfl) rfl rfl rfl rfl (by omega) (Nat.le_of_ble_eq_true rfl) (Nat.le_of_ble_eq_true rfl) (Nat.le_of_ble_eq_true rfl) (fun x hx => absurd hx List.not_mem_nil) (q_nmL0 _) (q_nmS0 _) rfl (pos' := 56) (st' := [.int (q_bz r18.1)]) (lI' := [(450, r18.2)]) (lE' := []) rfl rfl (q_mgw rfl rfl) rfl ?_
      refine q_blf 0 [] (a := q_kc (t, 0, m, z, N, ext, rx, L) I E 95 [some (.ref 450), some (.int x1), some (.ref r1)] [] [(450, r18.2)] []) (b := q_kc (t, 0, m, z, N, ext, rx, L) I E 57 [some (.ref 450), some (.int x1), some (.ref r1)] [] [(450, r18.2)] []) (P := (q_bz r18.1) = 0) ok_X7_readValue rfl q_cn (fun h19 => ?_) (fun h19 => ?_)
      · have hf := q_ip h19 hf
        cases hf
        exact q_krv ok_X7_readValue rfl rfl (Nat.le_of_ble_eq_true rfl) (Nat.le_of_ble_eq_true rfl) ⟨rfl, q_hpe (q_pdw [426, 429, 450] rfl rfl) (q_pdw [428] rfl rfl)⟩
      · have hf := q_in h19 hf
        refine q_blk 4 [] (c' := q_kc (t, 0, m, z, N, ext, rx, L) I E 61 [some (.ref 450), some (.int x1), some (.ref r1)] [.int (x1 + (1 : Int32)), .ref 450] [(450, r18.2)] []) ok_X7_readValue rfl q_cn ?_
        obtain ⟨r20, hr20, hf⟩ := q_bd hf
        refine q_kV (M2 := m_X7_readValue) (As := [.int (x1 + (1 : Int32))]) (b := 450) (v2 := none) ok_X7_readValue ok_X7_readValue cv_X7_readValue (hq_readValue hr20) rfl rfl (Or.inl rfl) rfl rfl rfl rfl (by omega) (Nat.le_of_ble_eq_true rfl) (Nat.le_of_ble_eq_true rfl) (Nat.le_of_ble_eq_true rfl) (fun x hx => absurd hx List.not_mem_nil) (q_nmL0 _) (q_nmS0 _) rfl (pos' := 62) (st' := []) (lI' := [(426, r20.1), (429, r20.2.1), (450, r20.2.2.1)]) (lE' := [(428, r20.2.2.2)]) rfl rfl (q_mgw rfl rfl) (q_mgw rfl rfl) ?_
        refine q_blk 4 [] (c' := q_kc (t, 0, m, z, N, ext, rx, L) I E 66 [some (.ref 450), some (.int x1), some (.ref r1)] [.int (0 : Int32), .ref 4, .ref 426] [(426, r20.1), (429, r20.2.1), (450, r20.2.2.1)] [(428, r20.2.2.2)]) ok_X7_readValue rfl q_cn ?_
        obtain ⟨r21, hr21, hf⟩ := q_bd hf
        refine q_kV (M2 := m_X6_addOrder) (As := [.ref 4, .int (0 : Int32)]) (b := 426) (v2 := none) ok_X7_readValue ok_X6_addOrder cv_X6_addOrder (ct_X6_addOrder_426 (d := 1) (Nat.le_refl _) hr21) rfl rfl (Or.inl rfl) rfl rfl rfl rfl (by omega) (Nat.le_of_ble_eq_true rfl) (Nat.le_of_ble_eq_true rfl) (Nat.le_of_ble_eq_true rfl) (fun x hx => absurd hx List.not_mem_nil) (q_nmL0 _) (q_nmS0 _) rfl (pos' := 67) (st' := []) (lI' := [(426, r21.1), (429, r21.2.1), (450, r20.2.2.1)]) (lE' := [(428, r21.2.2)]) rfl rfl (q_mgw rfl rfl) (q_mgw rfl rfl) ?_
        refine q_blk 1 [] (c' := q_kc (t, 0, m, z, N, ext, rx, L) I E 95 [some (.ref 450), some (.int x1), some (.ref r1)] [] [(426, r21.1), (429, r21.2.1), (450, r20.2.2.1)] [(428, r21.2.2)]) ok_X7_readValue rfl q_cn ?_
        cases hf
        exact q_krv ok_X7_readValue rfl rfl (Nat.le_of_ble_eq_true rfl) (Nat.le_of_ble_eq_true rfl) ⟨rfl, q_hpe (q_pdw [426, 429, 450] rfl rfl) (q_pdw [428] rfl rfl)⟩
    | 9, ht9 =>
      have hx9 : (q_sw j4) = 18 := hx9
      cases ht9
      have hf := q_in (fun hz9 => absurd (hx9.symm.trans hz9) (by decide)) hf
      have hf := q_in (fun hz9 => absurd (hx9.symm.trans hz9) (by decide)) hf
      have hf := q_in (fun hz9 => absurd (hx9.symm.trans hz9) (by decide)) hf
      have hf := q_in (fun hz9 => absurd (hx9.symm.trans hz9) (by decide)) hf
      have hf := q_in (fun hz9 => absurd (hx9.symm.trans hz9) (by decide)) hf
      have hf := q_in (fun hz9 => absurd (hx9.symm.trans hz9) (by decide)) hf
      have hf := q_in (fun hz9 => absurd (hx9.symm.trans hz9) (by decide)) hf
      have hf := q_in (fun hz9 => absurd (hx9.symm.trans hz9) (by decide)) hf
      have hf := q_in (fun hz9 => absurd (hx9.symm.trans hz9) (by decide)) hf
      have hf := q_ip hx9 hf
      refine q_blk 2 [] (c' := q_kc (t, 0, m, z, N, ext, rx, L) I E 70 [some (.ref 450), some (.int x1), some (.ref r1)] [.int x1, .ref 450] [] []) ok_X7_readValue rfl q_cn ?_
      obtain ⟨r22, hr22, hf⟩ := q_bd hf
      refine q_kV (M2 := m_X7_takeDeeper) (As := [.int x1]) (b := 450) (v2 := some (.int (q_bz r22.1))) ok_X7_readValue ok_X7_takeDeeper cv_X7_takeDeeper (ct_X7_takeDeeper_450 (d := 2) (Nat.le_refl _) hr22) rfl rfl (Or.inl rfl) rfl rfl rfl rfl (by omega) (Nat.le_of_ble_eq_true rfl) (Nat.le_of_ble_eq_true rfl) (Nat.le_of_ble_eq_true rfl) (fun x hx => absurd hx List.not_mem_nil) (q_nmL0 _) (q_nmS0 _) rfl (pos' := 71) (st' := [.int (q_bz r22.1)]) (lI' := [(450, r22.2)]) (lE' := []) rfl rfl (q_mgw rfl rfl) rfl ?_
      refine q_blf 0 [] (a := q_kc (t, 0, m, z, N, ext, rx, L) I E 95 [some (.ref 450), some (.int x1), some (.ref r1)] [] [(450, r22.2)] []) (b := q_kc (t, 0, m, z, N, ext, rx, L) I E 72 [some (.ref 450), some (.int x1), some (.ref r1)] [] [(450, r22.2)] []) (P := (q_bz r22.1) = 0) ok_X7_readValue rfl q_cn (fun h23 => ?_) (fun h23 => ?_)
      · have hf := q_ip h23 hf
        cases hf
        exact q_krv ok_X7_readValue rfl rfl (Nat.le_of_ble_eq_true rfl) (Nat.le_of_ble_eq_true rfl) ⟨rfl, q_hpe (q_pdw [426, 429, 450] rfl rfl) (q_pdw [428] rfl rfl)⟩
      · have hf := q_in h23 hf
        refine q_blk 4 [] (c' := q_kc (t, 0, m, z, N, ext, rx, L) I E 76 [some (.ref 450), some (.int x1), some (.ref r1)] [.int (x1 + (1 : Int32)), .ref 450] [(450, r22.2)] []) ok_X7_readValue rfl q_cn ?_
        obtain ⟨r24, hr24, hf⟩ := q_bd hf
        refine q_kV (M2 := m_X7_readSum) (As := [.int (x1 + (1 : Int32))]) (b := 450) (v2 := none) ok_X7_readValue ok_X7_readSum cv_X7_readSum (hq_readSum hr24) rfl rfl (Or.inl rfl) rfl rfl rfl rfl (by omega) (Nat.le_of_ble_eq_true rfl) (Nat.le_of_ble_eq_true rfl) (Nat.le_of_ble_eq_true rfl) (fun x hx => absurd hx List.not_mem_nil) (q_nmL0 _) (q_nmS0 _) rfl (pos' := 77) (st' := []) (lI' := [(426, r24.1), (429, r24.2.1), (450, r24.2.2.1)]) (lE' := [(428, r24.2.2.2)]) rfl rfl (q_mgw rfl rfl) (q_mgw rfl rfl) ?_
        refine q_blk 2 [] (c' := q_kc (t, 0, m, z, N, ext, rx, L) I E 79 [some (.ref 450), some (.int x1), some (.ref r1)] [.ref 35, .ref 450] [(426, r24.1), (429, r24.2.1), (450, r24.2.2.1)] [(428, r24.2.2.2)]) ok_X7_readValue rfl q_cn ?_
        obtain ⟨r25, hr25, hf⟩ := q_bd hf
        refine q_kV (M2 := m_X7_take) (As := [.ref 35]) (b := 450) (v2 := some (.int (q_bz r25.1))) ok_X7_readValue ok_X7_take cv_X7_take (ct_X7_take_450 (d := 3) (Nat.le_refl _) hr25) rfl rfl (Or.inl rfl) rfl rfl rfl rfl (by omega) (Nat.le_of_ble_eq_true rfl) (Nat.le_of_ble_eq_true rfl) (Nat.le_of_ble_eq_true rfl) (fun x hx => absurd hx List.not_mem_nil) (q_nmL0 _) (q_nmS0 _) rfl (pos' := 80) (st' := [.int (q_bz r25.1)]) (lI' := [(426, r24.1), (429, r24.2.1), (450, r25.2)]) (lE' := [(428, r24.2.2.2)]) rfl rfl (q_mgw rfl rfl) rfl ?_
        refine q_blk 2 [] (c' := q_kc (t, 0, m, z, N, ext, rx, L) I E 95 [some (.ref 450), some (.int x1), some (.ref r1)] [] [(426, r24.1), (429, r24.2.1), (450, r25.2)] [(428, r24.2.2.2)]) ok_X7_readValue rfl q_cn ?_
        cases hf
        exact q_krv ok_X7_readValue rfl rfl (Nat.le_of_ble_eq_true rfl) (Nat.le_of_ble_eq_true rfl) ⟨rfl, q_hpe (q_pdw [426, 429, 450] rfl rfl) (q_pdw [428] rfl rfl)⟩
    | 10, ht9 =>
      have hx9 : (q_sw j4) = 19 := hx9
      cases ht9
      have hf := q_in (fun hz9 => absurd (hx9.symm.trans hz9) (by decide)) hf
      have hf := q_in (fun hz9 => absurd (hx9.symm.trans hz9) (by decide)) hf
      have hf := q_in (fun hz9 => absurd (hx9.symm.trans hz9) (by decide)) hf
      have hf := q_in (fun hz9 => absurd (hx9.symm.trans hz9) (by decide)) hf
      have hf := q_in (fun hz9 => absurd (hx9.symm.trans hz9) (by decide)) hf
      have hf := q_in (fun hz9 => absurd (hx9.symm.trans hz9) (by decide)) hf
      have hf := q_in (fun hz9 => absurd (hx9.symm.trans hz9) (by decide)) hf
      have hf := q_in (fun hz9 => absurd (hx9.symm.trans hz9) (by decide)) hf
      have hf := q_in (fun hz9 => absurd (hx9.symm.trans hz9) (by decide)) hf
      have hf := q_in (fun hz9 => absurd (hx9.symm.trans hz9) (by decide)) hf
      have hf := q_ip hx9 hf
      refine q_blk 9 [] (c' := q_kc (t, 0, m, z, N, ext, rx, L) I E 91 [some (.ref 450), some (.int x1), some (.ref r1)] [.int x1, .ref r1, .ref 450] [(450, (q_up (I 450) 3 (((I 450) 3) + (1 : Int32))))] []) ok_X7_readValue rfl q_cn ?_
      obtain ⟨r26, hr26, hf⟩ := q_bd hf
      refine q_kV (M2 := m_X7_readPair) (As := [.ref r1, .int x1]) (b := 450) (v2 := none) ok_X7_readValue ok_X7_readPair cv_X7_readPair (ct_X7_readPair_450 (d := dR + 4) (Nat.le_refl _) hq_readSum hr26) rfl rfl (Or.inl rfl) rfl rfl rfl rfl (by omega) (Nat.le_of_ble_eq_true rfl) (Nat.le_of_ble_eq_true rfl) (Nat.le_of_ble_eq_true rfl) (fun x hx => absurd hx List.not_mem_nil) (q_nmL0 _) (q_nmS0 _) rfl (pos' := 92) (st' := []) (lI' := [(426, r26.1), (429, r26.2.1), (450, r26.2.2.1)]) (lE' := [(428, r26.2.2.2)]) rfl rfl (q_mgw rfl rfl) (q_mgw rfl rfl) ?_
      refine q_blk 1 [] (c' := q_kc (t, 0, m, z, N, ext, rx, L) I E 95 [some (.ref 450), some (.int x1), some (.ref r1)] [] [(426, r26.1), (429, r26.2.1), (450, r26.2.2.1)] [(428, r26.2.2.2)]) ok_X7_readValue rfl q_cn ?_
      cases hf
      exact q_krv ok_X7_readValue rfl rfl (Nat.le_of_ble_eq_true rfl) (Nat.le_of_ble_eq_true rfl) ⟨rfl, q_hpe (q_pdw [426, 429, 450] rfl rfl) (q_pdw [428] rfl rfl)⟩
    | 11, ht9 =>
      have hx9 : (q_sw j4) = 20 := hx9
      cases ht9
      have hf := q_in (fun hz9 => absurd (hx9.symm.trans hz9) (by decide)) hf
      have hf := q_in (fun hz9 => absurd (hx9.symm.trans hz9) (by decide)) hf
      have hf := q_in (fun hz9 => absurd (hx9.symm.trans hz9) (by decide)) hf
      have hf := q_in (fun hz9 => absurd (hx9.symm.trans hz9) (by decide)) hf
      have hf := q_in (fun hz9 => absurd (hx9.symm.trans hz9) (by decide)) hf
      have hf := q_in (fun hz9 => absurd (hx9.symm.trans hz9) (by decide)) hf
      have hf := q_in (fun hz9 => absurd (hx9.symm.trans hz9) (by decide)) hf
      have hf := q_in (fun hz9 => absurd (hx9.symm.trans hz9) (by decide)) hf
      have hf := q_in (fun hz9 => absurd (hx9.symm.trans hz9) (by decide)) hf
      have hf := q_in (fun hz9 => absurd (hx9.symm.trans hz9) (by decide)) hf
      have hf := q_in (fun hz9 => absurd (hx9.symm.trans hz9) (by decide)) hf
      have hf := q_ip hx9 hf
      refine q_blk 9 [] (c' := q_kc (t, 0, m, z, N, ext, rx, L) I E 91 [some (.ref 450), some (.int x1), some (.ref r1)] [.int x1, .ref r1, .ref 450] [(450, (q_up (I 450) 3 (((I 450) 3) + (1 : Int32))))] []) ok_X7_readValue rfl q_cn ?_
      obtain ⟨r27, hr27, hf⟩ := q_bd hf
      refine q_kV (M2 := m_X7_readPair) (As := [.ref r1, .int x1]) (b := 450) (v2 := none) ok_X7_readValue ok_X7_readPair cv_X7_readPair (ct_X7_readPair_450 (d := dR + 4) (Nat.le_refl _) hq_readSum hr27) rfl rfl (Or.inl rfl) rfl rfl rfl rfl (by omega) (Nat.le_of_ble_eq_true rfl) (Nat.le_of_ble_eq_true rfl) (Nat.le_of_ble_eq_true rfl) (fun x hx => absurd hx List.not_mem_nil) (q_nmL0 _) (q_nmS0 _) rfl (pos' := 92) (st' := []) (lI' := [(426, r27.1), (429, r27.2.1), (450, r27.2.2.1)]) (lE' := [(428, r27.2.2.2)]) rfl rfl (q_mgw rfl rfl) (q_mgw rfl rfl) ?_
      refine q_blk 1 [] (c' := q_kc (t, 0, m, z, N, ext, rx, L) I E 95 [some (.ref 450), some (.int x1), some (.ref r1)] [] [(426, r27.1), (429, r27.2.1), (450, r27.2.2.1)] [(428, r27.2.2.2)]) ok_X7_readValue rfl q_cn ?_
      cases hf
      exact q_krv ok_X7_readValue rfl rfl (Nat.le_of_ble_eq_true rfl) (Nat.le_of_ble_eq_true rfl) ⟨rfl, q_hpe (q_pdw [426, 429, 450] rfl rfl) (q_pdw [428] rfl rfl)⟩
    | z9 + 12, ht9 => cases ht9
  · have hf := q_in (hx9 0 (by decide)) hf
    have hf := q_in (hx9 1 (by decide)) hf
    have hf := q_in (hx9 2 (by decide)) hf
    have hf := q_in (hx9 3 (by decide)) hf
    have hf := q_in (hx9 4 (by decide)) hf
    have hf := q_in (hx9 5 (by decide)) hf
    have hf := q_in (hx9 6 (by decide)) hf
    have hf := q_in (hx9 7 (by decide)) hf
    have hf := q_in (hx9 8 (by decide)) hf
    have hf := q_in (hx9 9 (by decide)) hf
    have hf := q_in (hx9 10 (by decide)) hf
    have hf := q_in (hx9 11 (by decide)) hf
    refine q_blk 1 [] (c' := q_kc (t, 0, m, z, N, ext, rx, L) I E 94 [some (.ref 450), some (.int x1), some (.ref r1)] [.ref 450] [] []) ok_X7_readValue rfl q_cn ?_
    obtain ⟨r28, hr28, hf⟩ := q_bd hf
    refine q_kV (M2 := m_X7_fail) (As := []) (b := 450) (v2 := none) ok_X7_readValue ok_X7_fail cv_X7_fail (ct_X7_fail_450 (d := 1) (Nat.le_refl _) hr28) rfl rfl (Or.inl rfl) rfl rfl rfl rfl (by omega) (Nat.le_of_ble_eq_true rfl) (Nat.le_of_ble_eq_true rfl) (Nat.le_of_ble_eq_true rfl) (fun x hx => absurd hx List.not_mem_nil) (q_nmL0 _) (q_nmS0 _) rfl (pos' := 95) (st' := []) (lI' := [(450, r28)]) (lE' := []) rfl rfl (q_mgw rfl rfl) rfl ?_
    cases hf
    exact q_krv ok_X7_readValue rfl rfl (Nat.le_of_ble_eq_true rfl) (Nat.le_of_ble_eq_true rfl) ⟨rfl, q_hpe (q_pdw [426, 429, 450] rfl rfl) (q_pdw [428] rfl rfl)⟩
set_option maxHeartbeats 4000000 in
theorem lp_X7_readProduct_L5_450 {g : q_G} {d dR mc ms : Nat} {h0 : q_H} {Q : (Option Value ⊕ String) → q_H → Prop} {k n : Nat} {t : Nat} {m : Nat} {z : Nat} {N : Nat} {ext : Nat → q_Sh} {rx : Nat → Nat → Option Nat} {L : Nat → Nat → Int64} (hd : dR + 6 ≤ d) (hk : k ≤ mc) (hn : n ≤ ms)  {r_readValue : (Nat → Int32) → (Nat → Int32) → (Nat → Int32) → (Nat → Int32) → (Nat → Int32) → (Nat → Int32) → (Nat → Option Nat) → (Nat → Option Nat) → Int32 → Option ((Nat → Int32) × (Nat → Int32) × (Nat → Int32) × (Nat → Option Nat))} (hq_readValue : ∀ {I : Nat → Nat → Int32} {E : Nat → Nat → Option Nat} {dd : Int32} {r0 : (Nat → Int32) × (Nat → Int32) × (Nat → Int32) × (Nat → Option Nat)}, r_readValue ((I 426)) ((I 429)) ((I 450)) ((I 451)) ((I 452)) ((I 456)) ((E 428)) ((E 453)) dd = some r0 → q_Ct g m_X7_readValue dR 0 0 [] [.ref 450, .int dd] (q_hp (t, 0, m, z, N, ext, rx, L) I E) (fun o h' => o = .inl none ∧ h' = q_hp (t, 0, m, z, N, ext, rx, L) (q_ws I [(426, r0.1), (429, r0.2.1), (450, r0.2.2.1)]) (q_ws E [(428, r0.2.2.2)]))) {r_readSum : (Nat → Int32) → (Nat → Int32) → (Nat → Int32) → (Nat → Int32) → (Nat → Int32) → (Nat → Int32) → (Nat → Option Nat) → (Nat → Option Nat) → Int32 → Option ((Nat → Int32) × (Nat → Int32) × (Nat → Int32) × (Nat → Option Nat))} (hq_readSum : ∀ {I : Nat → Nat → Int32} {E : Nat → Nat → Option Nat} {dd : Int32} {r0 : (Nat → Int32) × (Nat → Int32) × (Nat → Int32) × (Nat → Option Nat)}, r_readSum ((I 426)) ((I 429)) ((I 450)) ((I 451)) ((I 452)) ((I 456)) ((E 428)) ((E 453)) dd = some r0 → q_Ct g m_X7_readSum dR 0 0 [] [.ref 450, .int dd] (q_hp (t, 0, m, z, N, ext, rx, L) I E) (fun o h' => o = .inl none ∧ h' = q_hp (t, 0, m, z, N, ext, rx, L) (q_ws I [(426, r0.1), (429, r0.2.1), (450, r0.2.2.1)]) (q_ws E [(428, r0.2.2.2)]))) {v1 : Int32} : ∀ (fu : Nat) {I : Nat → Nat → Int32} {E : Nat → Nat → Option Nat} {v2 : Int32} {r0 : (Nat → Int32) × (Nat → Int32) × (Nat → Int32) × (Nat → Option Nat)} (hf : f_X7_readProduct_L5 r_readValue r_readSum (I 451) (I 452) (I 456) (E 453) v1 fu (I 426) (I 429) (I 450) (E 428) v2 = some r0) (hK0 : q_J g m_X7_readProduct d mc ms h0 [] Q k n (q_kc (t, 0, m, z, N, ext, rx, L) I E 35 [none, none, none, none] [] [(426, r0.1), (429, r0.2.1), (450, r0.2.2.1)] [(428, r0.2.2.2)])), q_J g m_X7_readProduct d mc ms h0 [] Q k n (5, [some (.ref 450), some (.int v1), some (.int v2), none], [], q_hp (t, 0, m, z, N, ext, rx, L) I E) := by
  intro fu
  induction fu with
  | zero =>
    intro I E v2 r0 hf hK0
    rw [f_X7_readProduct_L5] at hf
    cases hf
  | succ fu ih =>
    intro I E v2 r0 hf hK0
    rw [f_X7_readProduct_L5] at hf
    change q_J g m_X7_readProduct d mc ms h0 [] Q k n (q_kc (t, 0, m, z, N, ext, rx, L) I E 5 [some (.ref 450), some (.int v1), some (.int v2), none] [] [] [])
    refine q_blf 2 [] (a := q_kc (t, 0, m, z, N, ext, rx, L) I E 35 [some (.ref 450), some (.int v1), some (.int v2), none] [] [] []) (b := q_kc (t, 0, m, z, N, ext, rx, L) I E 8 [some (.ref 450), some (.int v1), some (.int v2), none] [] [] []) (P := (400 : Int32) ≤ v2) ok_X7_readProduct rfl q_cn (fun h1 => ?_) (fun h1 => ?_)
    · have hf := q_ip h1 hf
      refine q_less (ls' := [none, none, none, none]) (q_sb1 (q_sb1 (q_sb1 (q_sb1 q_sb0)))) ?_
      cases hf
      exact q_Jpad (q_pdw [426, 429, 450] rfl rfl) (q_pdw [428] rfl rfl) hK0
    · have hf := q_in h1 hf
      refine q_blk 1 [] (c' := q_kc (t, 0, m, z, N, ext, rx, L) I E 9 [some (.ref 450), some (.int v1), some (.int v2), none] [.ref 450] [] []) ok_X7_readProduct rfl q_cn ?_
      obtain ⟨r2, hr2, hf⟩ := q_bd hf
      obtain ⟨u3, hu4, hf⟩ := q_bd hf
      refine q_kV (M2 := m_X7_sign) (As := []) (b := 450) (v2 := some (.ref r2)) ok_X7_readProduct ok_X7_sign cv_X7_sign (ct_X7_sign_450 (d := 2) (Nat.le_refl _) hr2) rfl rfl (Or.inl rfl) rfl rfl rfl rfl (by omega) hk hn (Nat.le_of_ble_eq_true rfl) (fun x hx => absurd hx List.not_mem_nil) (q_nmL0 _) (q_nmS0 _) rfl (pos' := 10) (st' := [.ref r2]) (lI' := []) (lE' := []) rfl rfl rfl rfl ?_
      refine q_blk 1 [] (c' := q_kc (t, 0, m, z, N, ext, rx, L) I E 11 [some (.ref 450), some (.int v1), some (.int v2), none] [.ref 42, .ref r2] [] []) ok_X7_readProduct rfl q_cn ?_
      refine q_o_acmp_eq ok_X7_readProduct rfl (q_e49_lt hu4) (Nat.lt_of_lt_of_le (Nat.lt_succ_self _) (Nat.le_of_ble_eq_true rfl)) (fun h5 => ?_) (fun h5 => ?_)
      · have hf := q_ip h5 hf
        refine q_blk 1 [] (c' := q_kc (t, 0, m, z, N, ext, rx, L) I E 17 [some (.ref 450), some (.int v1), some (.int v2), none] [.ref 450] [] []) ok_X7_readProduct rfl q_cn ?_
        obtain ⟨r6, hr6, hf⟩ := q_bd hf
        obtain ⟨u7, hu8, hf⟩ := q_bd hf
        refine q_kV (M2 := m_X7_sign) (As := []) (b := 450) (v2 := some (.ref r6)) ok_X7_readProduct ok_X7_sign cv_X7_sign (ct_X7_sign_450 (d := 2) (Nat.le_refl _) hr6) rfl rfl (Or.inl rfl) rfl rfl rfl rfl (by omega) hk hn (Nat.le_of_ble_eq_true rfl) (fun x hx => absurd hx List.not_mem_nil) (q_nmL0 _) (q_nmS0 _) rfl (pos' := 18) (st' := [.ref r6]) (lI' := []) (lE' := []) rfl rfl rfl rfl ?_
        refine q_blk 9 [] (c' := q_kc (t, 0, m, z, N, ext, rx, L) I E 27 [some (.ref 450), some (.int v1), some (.int v2), some (.ref r6)] [.int v1, .ref 450] [(450, (q_up (I 450) 3 (((I 450) 3) + (1 : Int32))))] []) ok_X7_readProduct rfl q_cn ?_
        obtain ⟨r9, hr9, hf⟩ := q_bd hf
        refine q_kV (M2 := m_X7_readValue) (As := [.int v1]) (b := 450) (v2 := none) ok_X7_readProduct ok_X7_readValue cv_X7_readValue (ct_X7_readValue_450 (d := dR + 5) (Nat.le_refl _) hq_readValue hq_readSum hr9) rfl rfl (Or.inl rfl) rfl rfl rfl rfl (by omega) hk hn (Nat.le_of_ble_eq_true rfl) (fun x hx => absurd hx List.not_mem_nil) (q_nmL0 _) (q_nmS0 _) rfl (pos' := 28) (st' := []) (lI' := [(426, r9.1), (429, r9.2.1), (450, r9.2.2.1)]) (lE' := [(428, r9.2.2.2)]) rfl rfl (q_mgw rfl rfl) (q_mgw rfl rfl) ?_
        refine q_blk 4 [] (c' := q_kc (t, 0, m, z, N, ext, rx, L) I E 32 [some (.ref 450), some (.int v1), some (.int v2), some (.ref r6)] [.int (0 : Int32), .ref r6, .ref 426] [(426, r9.1), (429, r9.2.1), (450, r9.2.2.1)] [(428, r9.2.2.2)]) ok_X7_readProduct rfl q_cn ?_
        obtain ⟨r10, hr10, hf⟩ := q_bd hf
        refine q_kV (M2 := m_X6_addOrder) (As := [.ref r6, .int (0 : Int32)]) (b := 426) (v2 := none) ok_X7_readProduct ok_X6_addOrder cv_X6_addOrder (ct_X6_addOrder_426 (d := 1) (Nat.le_refl _) hr10) rfl rfl (Or.inl rfl) rfl rfl rfl rfl (by omega) hk hn (Nat.le_of_ble_eq_true rfl) (fun x hx => absurd hx List.not_mem_nil) (q_nmL0 _) (q_nmS0 _) rfl (pos' := 33) (st' := []) (lI' := [(426, r10.1), (429, r10.2.1), (450, r9.2.2.1)]) (lE' := [(428, r10.2.2)]) rfl rfl (q_mgw rfl rfl) (q_mgw rfl rfl) ?_
        refine q_blk 2 [] (c' := q_kc (t, 0, m, z, N, ext, rx, L) I E 5 [some (.ref 450), some (.int v1), some (.int (v2 + 1)), some (.ref r6)] [] [(426, r10.1), (429, r10.2.1), (450, r9.2.2.1)] [(428, r10.2.2)]) ok_X7_readProduct rfl q_cn ?_
        refine q_less (ls' := [some (.ref 450), some (.int v1), some (.int (v2 + 1)), none]) (q_sb2 (q_sb2 (q_sb2 (q_sb1 q_sb0)))) ?_
        exact ih (I := q_ws I [(426, r10.1), (429, r10.2.1), (450, r9.2.2.1)]) (E := q_ws E [(428, r10.2.2)]) hf (q_Jmrg (q_mgw rfl rfl) (q_mgw rfl rfl) hK0)
      · have hf := q_in h5 hf
        refine q_blk 1 [] (c' := q_kc (t, 0, m, z, N, ext, rx, L) I E 13 [some (.ref 450), some (.int v1), some (.int v2), none] [.ref 450] [] []) ok_X7_readProduct rfl q_cn ?_
        obtain ⟨r11, hr11, hf⟩ := q_bd hf
        obtain ⟨u12, hu13, hf⟩ := q_bd hf
        refine q_kV (M2 := m_X7_sign) (As := []) (b := 450) (v2 := some (.ref r11)) ok_X7_readProduct ok_X7_sign cv_X7_sign (ct_X7_sign_450 (d := 2) (Nat.le_refl _) hr11) rfl rfl (Or.inl rfl) rfl rfl rfl rfl (by omega) hk hn (Nat.le_of_ble_eq_true rfl) (fun x hx => absurd hx List.not_mem_nil) (q_nmL0 _) (q_nmS0 _) rfl (pos' := 14) (st' := [.ref r11]) (lI' := []) (lE' := []) rfl rfl rfl rfl ?_
        refine q_blk 1 [] (c' := q_kc (t, 0, m, z, N, ext, rx, L) I E 15 [some (.ref 450), some (.int v1), some (.int v2), none] [.ref 43, .ref r11] [] []) ok_X7_readProduct rfl q_cn ?_
        refine q_o_acmp_ne ok_X7_readProduct rfl (q_e49_lt hu13) (Nat.lt_of_lt_of_le (Nat.lt_succ_self _) (Nat.le_of_ble_eq_true rfl)) (fun h14 => ?_) (fun h14 => ?_)
        · have hf := q_in h14 hf
          refine q_less (ls' := [none, none, none, none]) (q_sb1 (q_sb1 (q_sb1 (q_sb1 q_sb0)))) ?_
          cases hf
          exact q_Jpad (q_pdw [426, 429, 450] rfl rfl) (q_pdw [428] rfl rfl) hK0
        · have hf := q_ip h14 hf
          refine q_blk 1 [] (c' := q_kc (t, 0, m, z, N, ext, rx, L) I E 17 [some (.ref 450), some (.int v1), some (.int v2), none] [.ref 450] [] []) ok_X7_readProduct rfl q_cn ?_
          obtain ⟨r15, hr15, hf⟩ := q_bd hf
          obtain ⟨u16, hu17, hf⟩ := q_bd hf
          refine q_kV (M2 := m_X7_sign) (As := []) (b := 450) (v2 := some (.ref r15)) ok_X7_readProduct ok_X7_sign cv_X7_sign (ct_X7_sign_450 (d := 2) (Nat.le_refl _) hr15) rfl rfl (Or.inl rfl) rfl rfl rfl rfl (by omega) hk hn (Nat.le_of_ble_eq_true rfl) (fun x hx => absurd hx List.not_mem_nil) (q_nmL0 _) (q_nmS0 _) rfl (pos' := 18) (st' := [.ref r15]) (lI' := []) (lE' := []) rfl rfl rfl rfl ?_
          refine q_blk 9 [] (c' := q_kc (t, 0, m, z, N, ext, rx, L) I E 27 [some (.ref 450), some (.int v1), some (.int v2), some (.ref r15)] [.int v1, .ref 450] [(450, (q_up (I 450) 3 (((I 450) 3) + (1 : Int32))))] []) ok_X7_readProduct rfl q_cn ?_
          obtain ⟨r18, hr18, hf⟩ := q_bd hf
          refine q_kV (M2 := m_X7_readValue) (As := [.int v1]) (b := 450) (v2 := none) ok_X7_readProduct ok_X7_readValue cv_X7_readValue (ct_X7_readValue_450 (d := dR + 5) (Nat.le_refl _) hq_readValue hq_readSum hr18) rfl rfl (Or.inl rfl) rfl rfl rfl rfl (by omega) hk hn (Nat.le_of_ble_eq_true rfl) (fun x hx => absurd hx List.not_mem_nil) (q_nmL0 _) (q_nmS0 _) rfl (pos' := 28) (st' := []) (lI' := [(426, r18.1), (429, r18.2.1), (450, r18.2.2.1)]) (lE' := [(428, r18.2.2.2)]) rfl rfl (q_mgw rfl rfl) (q_mgw rfl rfl) ?_
          refine q_blk 4 [] (c' := q_kc (t, 0, m, z, N, ext, rx, L) I E 32 [some (.ref 450), some (.int v1), some (.int v2), some (.ref r15)] [.int (0 : Int32), .ref r15, .ref 426] [(426, r18.1), (429, r18.2.1), (450, r18.2.2.1)] [(428, r18.2.2.2)]) ok_X7_readProduct rfl q_cn ?_
          obtain ⟨r19, hr19, hf⟩ := q_bd hf
          refine q_kV (M2 := m_X6_addOrder) (As := [.ref r15, .int (0 : Int32)]) (b := 426) (v2 := none) ok_X7_readProduct ok_X6_addOrder cv_X6_addOrder (ct_X6_addOrder_426 (d := 1) (Nat.le_refl _) hr19) rfl rfl (Or.inl rfl) rfl rfl rfl rfl (by omega) hk hn (Nat.le_of_ble_eq_true rfl) (fun x hx => absurd hx List.not_mem_nil) (q_nmL0 _) (q_nmS0 _) rfl (pos' := 33) (st' := []) (lI' := [(426, r19.1), (429, r19.2.1), (450, r18.2.2.1)]) (lE' := [(428, r19.2.2)]) rfl rfl (q_mgw rfl rfl) (q_mgw rfl rfl) ?_
          refine q_blk 2 [] (c' := q_kc (t, 0, m, z, N, ext, rx, L) I E 5 [some (.ref 450), some (.int v1), some (.int (v2 + 1)), some (.ref r15)] [] [(426, r19.1), (429, r19.2.1), (450, r18.2.2.1)] [(428, r19.2.2)]) ok_X7_readProduct rfl q_cn ?_
          refine q_less (ls' := [some (.ref 450), some (.int v1), some (.int (v2 + 1)), none]) (q_sb2 (q_sb2 (q_sb2 (q_sb1 q_sb0)))) ?_
          exact ih (I := q_ws I [(426, r19.1), (429, r19.2.1), (450, r18.2.2.1)]) (E := q_ws E [(428, r19.2.2)]) hf (q_Jmrg (q_mgw rfl rfl) (q_mgw rfl rfl) hK0)
set_option maxHeartbeats 4000000 in
theorem ct_X7_readProduct_450 {g : q_G} {t : Nat} {m : Nat} {z : Nat} {N : Nat} {ext : Nat → q_Sh} {rx : Nat → Nat → Option Nat} {L : Nat → Nat → Int64} {d dR : Nat} (hd : dR + 6 ≤ d)  {r_readValue : (Nat → Int32) → (Nat → Int32) → (Nat → Int32) → (Nat → Int32) → (Nat → Int32) → (Nat → Int32) → (Nat → Option Nat) → (Nat → Option Nat) → Int32 → Option ((Nat → Int32) × (Nat → Int32) × (Nat → Int32) × (Nat → Option Nat))} (hq_readValue : ∀ {I : Nat → Nat → Int32} {E : Nat → Nat → Option Nat} {dd : Int32} {r0 : (Nat → Int32) × (Nat → Int32) × (Nat → Int32) × (Nat → Option Nat)}, r_readValue ((I 426)) ((I 429)) ((I 450)) ((I 451)) ((I 452)) ((I 456)) ((E 428)) ((E 453)) dd = some r0 → q_Ct g m_X7_readValue dR 0 0 [] [.ref 450, .int dd] (q_hp (t, 0, m, z, N, ext, rx, L) I E) (fun o h' => o = .inl none ∧ h' = q_hp (t, 0, m, z, N, ext, rx, L) (q_ws I [(426, r0.1), (429, r0.2.1), (450, r0.2.2.1)]) (q_ws E [(428, r0.2.2.2)]))) {r_readSum : (Nat → Int32) → (Nat → Int32) → (Nat → Int32) → (Nat → Int32) → (Nat → Int32) → (Nat → Int32) → (Nat → Option Nat) → (Nat → Option Nat) → Int32 → Option ((Nat → Int32) × (Nat → Int32) × (Nat → Int32) × (Nat → Option Nat))} (hq_readSum : ∀ {I : Nat → Nat → Int32} {E : Nat → Nat → Option Nat} {dd : Int32} {r0 : (Nat → Int32) × (Nat → Int32) × (Nat → Int32) × (Nat → Option Nat)}, r_readSum ((I 426)) ((I 429)) ((I 450)) ((I 451)) ((I 452)) ((I 456)) ((E 428)) ((E 453)) dd = some r0 → q_Ct g m_X7_readSum dR 0 0 [] [.ref 450, .int dd] (q_hp (t, 0, m, z, N, ext, rx, L) I E) (fun o h' => o = .inl none ∧ h' = q_hp (t, 0, m, z, N, ext, rx, L) (q_ws I [(426, r0.1), (429, r0.2.1), (450, r0.2.2.1)]) (q_ws E [(428, r0.2.2.2)]))){I : Nat → Nat → Int32} {E : Nat → Nat → Option Nat} {x1 : Int32} {r0 : (Nat → Int32) × (Nat → Int32) × (Nat → Int32) × (Nat → Option Nat)} (hf : f_X7_readProduct r_readValue r_readSum (I 426) (I 429) (I 450) (I 451) (I 452) (I 456) (E 428) (E 453) x1 = some r0) : q_Ct g m_X7_readProduct d 0 0 [] [.ref 450, .int x1] (q_hp (t, 0, m, z, N, ext, rx, L) I E) (fun o h' => o = .inl none ∧ h' = q_hp (t, 0, m, z, N, ext, rx, L) (q_ws I [(426, r0.1), (429, r0.2.1), (450, r0.2.2.1)]) (q_ws E [(428, r0.2.2.2)])) := by
  rw [f_X7_readProduct] at hf
  refine q_Ct_of ok_X7_readProduct (Nat.le_of_ble_eq_true rfl) ?_ _ rfl rfl
  change q_J g m_X7_readProduct d 0 0 _ [] _ 0 0 (q_kc (t, 0, m, z, N, ext, rx, L) I E 0 [some (.ref 450), some (.int x1), none, none] [] [] [])
  refine q_blk 2 [] (c' := q_kc (t, 0, m, z, N, ext, rx, L) I E 2 [some (.ref 450), some (.int x1), none, none] [.int x1, .ref 450] [] []) ok_X7_readProduct rfl q_cn ?_
  obtain ⟨r20, hr20, hf⟩ := q_bd hf
  refine q_kV (M2 := m_X7_readValue) (As := [.int x1]) (b := 450) (v2 := none) ok_X7_readProduct ok_X7_readValue cv_X7_readValue (ct_X7_readValue_450 (d := dR + 5) (Nat.le_refl _) hq_readValue hq_readSum hr20) rfl rfl (Or.inl rfl) rfl rfl rfl rfl (by omega) (Nat.le_of_ble_eq_true rfl) (Nat.le_of_ble_eq_true rfl) (Nat.le_of_ble_eq_true rfl) (fun x hx => absurd hx List.not_mem_nil) (q_nmL0 _) (q_nmS0 _) rfl (pos' := 3) (st' := []) (lI' := [(426, r20.1), (429, r20.2.1), (450, r20.2.2.1)]) (lE' := [(428, r20.2.2.2)]) rfl rfl (q_mgw rfl rfl) (q_mgw rfl rfl) ?_
  refine q_blk 2 [] (c' := q_kc (t, 0, m, z, N, ext, rx, L) I E 5 [some (.ref 450), some (.int x1), some (.int (0 : Int32)), none] [] [(426, r20.1), (429, r20.2.1), (450, r20.2.2.1)] [(428, r20.2.2.2)]) ok_X7_readProduct rfl q_cn ?_
  obtain ⟨r21, hr21, hf⟩ := q_bd hf
  refine lp_X7_readProduct_L5_450 (I := q_ws I [(426, r20.1), (429, r20.2.1), (450, r20.2.2.1)]) (E := q_ws E [(428, r20.2.2.2)]) hd (Nat.le_of_ble_eq_true rfl) (Nat.le_of_ble_eq_true rfl) hq_readValue hq_readSum 4096 hr21 ?_
  refine q_Jmrg (lI' := [(426, r21.1), (429, r21.2.1), (450, r21.2.2.1)]) (lE' := [(428, r21.2.2.2)]) (q_mgw rfl rfl) (q_mgw rfl rfl) ?_
  cases hf
  exact q_krv ok_X7_readProduct rfl rfl (Nat.le_of_ble_eq_true rfl) (Nat.le_of_ble_eq_true rfl) ⟨rfl, q_hpe (q_pdw [426, 429, 450] rfl rfl) (q_pdw [428] rfl rfl)⟩
set_option maxHeartbeats 4000000 in
theorem lp_X7_readSum_L5_450 {g : q_G} {d dR mc ms : Nat} {h0 : q_H} {Q : (Option Value ⊕ String) → q_H → Prop} {k n : Nat} {t : Nat} {m : Nat} {z : Nat} {N : Nat} {ext : Nat → q_Sh} {rx : Nat → Nat → Option Nat} {L : Nat → Nat → Int64} (hd : dR + 7 ≤ d) (hk : k ≤ mc) (hn : n ≤ ms)  {r_readValue : (Nat → Int32) → (Nat → Int32) → (Nat → Int32) → (Nat → Int32) → (Nat → Int32) → (Nat → Int32) → (Nat → Option Nat) → (Nat → Option Nat) → Int32 → Option ((Nat → Int32) × (Nat → Int32) × (Nat → Int32) × (Nat → Option Nat))} (hq_readValue : ∀ {I : Nat → Nat → Int32} {E : Nat → Nat → Option Nat} {dd : Int32} {r0 : (Nat → Int32) × (Nat → Int32) × (Nat → Int32) × (Nat → Option Nat)}, r_readValue ((I 426)) ((I 429)) ((I 450)) ((I 451)) ((I 452)) ((I 456)) ((E 428)) ((E 453)) dd = some r0 → q_Ct g m_X7_readValue dR 0 0 [] [.ref 450, .int dd] (q_hp (t, 0, m, z, N, ext, rx, L) I E) (fun o h' => o = .inl none ∧ h' = q_hp (t, 0, m, z, N, ext, rx, L) (q_ws I [(426, r0.1), (429, r0.2.1), (450, r0.2.2.1)]) (q_ws E [(428, r0.2.2.2)]))) {r_readSum : (Nat → Int32) → (Nat → Int32) → (Nat → Int32) → (Nat → Int32) → (Nat → Int32) → (Nat → Int32) → (Nat → Option Nat) → (Nat → Option Nat) → Int32 → Option ((Nat → Int32) × (Nat → Int32) × (Nat → Int32) × (Nat → Option Nat))} (hq_readSum : ∀ {I : Nat → Nat → Int32} {E : Nat → Nat → Option Nat} {dd : Int32} {r0 : (Nat → Int32) × (Nat → Int32) × (Nat → Int32) × (Nat → Option Nat)}, r_readSum ((I 426)) ((I 429)) ((I 450)) ((I 451)) ((I 452)) ((I 456)) ((E 428)) ((E 453)) dd = some r0 → q_Ct g m_X7_readSum dR 0 0 [] [.ref 450, .int dd] (q_hp (t, 0, m, z, N, ext, rx, L) I E) (fun o h' => o = .inl none ∧ h' = q_hp (t, 0, m, z, N, ext, rx, L) (q_ws I [(426, r0.1), (429, r0.2.1), (450, r0.2.2.1)]) (q_ws E [(428, r0.2.2.2)]))) {v1 : Int32} : ∀ (fu : Nat) {I : Nat → Nat → Int32} {E : Nat → Nat → Option Nat} {v2 : Int32} {r0 : (Nat → Int32) × (Nat → Int32) × (Nat → Int32) × (Nat → Option Nat)} (hf : f_X7_readSum_L5 r_readValue r_readSum (I 451) (I 452) (I 456) (E 453) v1 fu (I 426) (I 429) (I 450) (E 428) v2 = some r0) (hK0 : q_J g m_X7_readSum d mc ms h0 [] Q k n (q_kc (t, 0, m, z, N, ext, rx, L) I E 35 [none, none, none, none] [] [(426, r0.1), (429, r0.2.1), (450, r0.2.2.1)] [(428, r0.2.2.2)])), q_J g m_X7_readSum d mc ms h0 [] Q k n (5, [some (.ref 450), some (.int v1), some (.int v2), none], [], q_hp (t, 0, m, z, N, ext, rx, L) I E) := by
  intro fu
  induction fu with
  | zero =>
    intro I E v2 r0 hf hK0
    rw [f_X7_readSum_L5] at hf
    cases hf
  | succ fu ih =>
    intro I E v2 r0 hf hK0
    rw [f_X7_readSum_L5] at hf
    change q_J g m_X7_readSum d mc ms h0 [] Q k n (q_kc (t, 0, m, z, N, ext, rx, L) I E 5 [some (.ref 450), some (.int v1), some (.int v2), none] [] [] [])
    refine q_blf 2 [] (a := q_kc (t, 0, m, z, N, ext, rx, L) I E 35 [some (.ref 450), some (.int v1), some (.int v2), none] [] [] []) (b := q_kc (t, 0, m, z, N, ext, rx, L) I E 8 [some (.ref 450), some (.int v1), some (.int v2), none] [] [] []) (P := (400 : Int32) ≤ v2) ok_X7_readSum rfl q_cn (fun h1 => ?_) (fun h1 => ?_)
    · have hf := q_ip h1 hf
      refine q_less (ls' := [none, none, none, none]) (q_sb1 (q_sb1 (q_sb1 (q_sb1 q_sb0)))) ?_
      cases hf
      exact q_Jpad (q_pdw [426, 429, 450] rfl rfl) (q_pdw [428] rfl rfl) hK0
    · have hf := q_in h1 hf
      refine q_blk 1 [] (c' := q_kc (t, 0, m, z, N, ext, rx, L) I E 9 [some (.ref 450), some (.int v1), some (.int v2), none] [.ref 450] [] []) ok_X7_readSum rfl q_cn ?_
      obtain ⟨r2, hr2, hf⟩ := q_bd hf
      obtain ⟨u3, hu4, hf⟩ := q_bd hf
      refine q_kV (M2 := m_X7_sign) (As := []) (b := 450) (v2 := some (.ref r2)) ok_X7_readSum ok_X7_sign cv_X7_sign (ct_X7_sign_450 (d := 2) (Nat.le_refl _) hr2) rfl rfl (Or.inl rfl) rfl rfl rfl rfl (by omega) hk hn (Nat.le_of_ble_eq_true rfl) (fun x hx => absurd hx List.not_mem_nil) (q_nmL0 _) (q_nmS0 _) rfl (pos' := 10) (st' := [.ref r2]) (lI' := []) (lE' := []) rfl rfl rfl rfl ?_
      refine q_blk 1 [] (c' := q_kc (t, 0, m, z, N, ext, rx, L) I E 11 [some (.ref 450), some (.int v1), some (.int v2), none] [.ref 40, .ref r2] [] []) ok_X7_readSum rfl q_cn ?_
      refine q_o_acmp_eq ok_X7_readSum rfl (q_e49_lt hu4) (Nat.lt_of_lt_of_le (Nat.lt_succ_self _) (Nat.le_of_ble_eq_true rfl)) (fun h5 => ?_) (fun h5 => ?_)
      · have hf := q_ip h5 hf
        refine q_blk 1 [] (c' := q_kc (t, 0, m, z, N, ext, rx, L) I E 17 [some (.ref 450), some (.int v1), some (.int v2), none] [.ref 450] [] []) ok_X7_readSum rfl q_cn ?_
        obtain ⟨r6, hr6, hf⟩ := q_bd hf
        obtain ⟨u7, hu8, hf⟩ := q_bd hf
        refine q_kV (M2 := m_X7_sign) (As := []) (b := 450) (v2 := some (.ref r6)) ok_X7_readSum ok_X7_sign cv_X7_sign (ct_X7_sign_450 (d := 2) (Nat.le_refl _) hr6) rfl rfl (Or.inl rfl) rfl rfl rfl rfl (by omega) hk hn (Nat.le_of_ble_eq_true rfl) (fun x hx => absurd hx List.not_mem_nil) (q_nmL0 _) (q_nmS0 _) rfl (pos' := 18) (st' := [.ref r6]) (lI' := []) (lE' := []) rfl rfl rfl rfl ?_
        refine q_blk 9 [] (c' := q_kc (t, 0, m, z, N, ext, rx, L) I E 27 [some (.ref 450), some (.int v1), some (.int v2), some (.ref r6)] [.int v1, .ref 450] [(450, (q_up (I 450) 3 (((I 450) 3) + (1 : Int32))))] []) ok_X7_readSum rfl q_cn ?_
        obtain ⟨r9, hr9, hf⟩ := q_bd hf
        refine q_kV (M2 := m_X7_readProduct) (As := [.int v1]) (b := 450) (v2 := none) ok_X7_readSum ok_X7_readProduct cv_X7_readProduct (ct_X7_readProduct_450 (d := dR + 6) (Nat.le_refl _) hq_readValue hq_readSum hr9) rfl rfl (Or.inl rfl) rfl rfl rfl rfl (by omega) hk hn (Nat.le_of_ble_eq_true rfl) (fun x hx => absurd hx List.not_mem_nil) (q_nmL0 _) (q_nmS0 _) rfl (pos' := 28) (st' := []) (lI' := [(426, r9.1), (429, r9.2.1), (450, r9.2.2.1)]) (lE' := [(428, r9.2.2.2)]) rfl rfl (q_mgw rfl rfl) (q_mgw rfl rfl) ?_
        refine q_blk 4 [] (c' := q_kc (t, 0, m, z, N, ext, rx, L) I E 32 [some (.ref 450), some (.int v1), some (.int v2), some (.ref r6)] [.int (0 : Int32), .ref r6, .ref 426] [(426, r9.1), (429, r9.2.1), (450, r9.2.2.1)] [(428, r9.2.2.2)]) ok_X7_readSum rfl q_cn ?_
        obtain ⟨r10, hr10, hf⟩ := q_bd hf
        refine q_kV (M2 := m_X6_addOrder) (As := [.ref r6, .int (0 : Int32)]) (b := 426) (v2 := none) ok_X7_readSum ok_X6_addOrder cv_X6_addOrder (ct_X6_addOrder_426 (d := 1) (Nat.le_refl _) hr10) rfl rfl (Or.inl rfl) rfl rfl rfl rfl (by omega) hk hn (Nat.le_of_ble_eq_true rfl) (fun x hx => absurd hx List.not_mem_nil) (q_nmL0 _) (q_nmS0 _) rfl (pos' := 33) (st' := []) (lI' := [(426, r10.1), (429, r10.2.1), (450, r9.2.2.1)]) (lE' := [(428, r10.2.2)]) rfl rfl (q_mgw rfl rfl) (q_mgw rfl rfl) ?_
        refine q_blk 2 [] (c' := q_kc (t, 0, m, z, N, ext, rx, L) I E 5 [some (.ref 450), some (.int v1), some (.int (v2 + 1)), some (.ref r6)] [] [(426, r10.1), (429, r10.2.1), (450, r9.2.2.1)] [(428, r10.2.2)]) ok_X7_readSum rfl q_cn ?_
        refine q_less (ls' := [some (.ref 450), some (.int v1), some (.int (v2 + 1)), none]) (q_sb2 (q_sb2 (q_sb2 (q_sb1 q_sb0)))) ?_
        exact ih (I := q_ws I [(426, r10.1), (429, r10.2.1), (450, r9.2.2.1)]) (E := q_ws E [(428, r10.2.2)]) hf (q_Jmrg (q_mgw rfl rfl) (q_mgw rfl rfl) hK0)
      · have hf := q_in h5 hf
        refine q_blk 1 [] (c' := q_kc (t, 0, m, z, N, ext, rx, L) I E 13 [some (.ref 450), some (.int v1), some (.int v2), none] [.ref 450] [] []) ok_X7_readSum rfl q_cn ?_
        obtain ⟨r11, hr11, hf⟩ := q_bd hf
        obtain ⟨u12, hu13, hf⟩ := q_bd hf
        refine q_kV (M2 := m_X7_sign) (As := []) (b := 450) (v2 := some (.ref r11)) ok_X7_readSum ok_X7_sign cv_X7_sign (ct_X7_sign_450 (d := 2) (Nat.le_refl _) hr11) rfl rfl (Or.inl rfl) rfl rfl rfl rfl (by omega) hk hn (Nat.le_of_ble_eq_true rfl) (fun x hx => absurd hx List.not_mem_nil) (q_nmL0 _) (q_nmS0 _) rfl (pos' := 14) (st' := [.ref r11]) (lI' := []) (lE' := []) rfl rfl rfl rfl ?_
        refine q_blk 1 [] (c' := q_kc (t, 0, m, z, N, ext, rx, L) I E 15 [some (.ref 450), some (.int v1), some (.int v2), none] [.ref 41, .ref r11] [] []) ok_X7_readSum rfl q_cn ?_
        refine q_o_acmp_ne ok_X7_readSum rfl (q_e49_lt hu13) (Nat.lt_of_lt_of_le (Nat.lt_succ_self _) (Nat.le_of_ble_eq_true rfl)) (fun h14 => ?_) (fun h14 => ?_)
        · have hf := q_in h14 hf
          refine q_less (ls' := [none, none, none, none]) (q_sb1 (q_sb1 (q_sb1 (q_sb1 q_sb0)))) ?_
          cases hf
          exact q_Jpad (q_pdw [426, 429, 450] rfl rfl) (q_pdw [428] rfl rfl) hK0
        · have hf := q_ip h14 hf
          refine q_blk 1 [] (c' := q_kc (t, 0, m, z, N, ext, rx, L) I E 17 [some (.ref 450), some (.int v1), some (.int v2), none] [.ref 450] [] []) ok_X7_readSum rfl q_cn ?_
          obtain ⟨r15, hr15, hf⟩ := q_bd hf
          obtain ⟨u16, hu17, hf⟩ := q_bd hf
          refine q_kV (M2 := m_X7_sign) (As := []) (b := 450) (v2 := some (.ref r15)) ok_X7_readSum ok_X7_sign cv_X7_sign (ct_X7_sign_450 (d := 2) (Nat.le_refl _) hr15) rfl rfl (Or.inl rfl) rfl rfl rfl rfl (by omega) hk hn (Nat.le_of_ble_eq_true rfl) (fun x hx => absurd hx List.not_mem_nil) (q_nmL0 _) (q_nmS0 _) rfl (pos' := 18) (st' := [.ref r15]) (lI' := []) (lE' := []) rfl rfl rfl rfl ?_
          refine q_blk 9 [] (c' := q_kc (t, 0, m, z, N, ext, rx, L) I E 27 [some (.ref 450), some (.int v1), some (.int v2), some (.ref r15)] [.int v1, .ref 450] [(450, (q_up (I 450) 3 (((I 450) 3) + (1 : Int32))))] []) ok_X7_readSum rfl q_cn ?_
          obtain ⟨r18, hr18, hf⟩ := q_bd hf
          refine q_kV (M2 := m_X7_readProduct) (As := [.int v1]) (b := 450) (v2 := none) ok_X7_readSum ok_X7_readProduct cv_X7_readProduct (ct_X7_readProduct_450 (d := dR + 6) (Nat.le_refl _) hq_readValue hq_readSum hr18) rfl rfl (Or.inl rfl) rfl rfl rfl rfl (by omega) hk hn (Nat.le_of_ble_eq_true rfl) (fun x hx => absurd hx List.not_mem_nil) (q_nmL0 _) (q_nmS0 _) rfl (pos' := 28) (st' := []) (lI' := [(426, r18.1), (429, r18.2.1), (450, r18.2.2.1)]) (lE' := [(428, r18.2.2.2)]) rfl rfl (q_mgw rfl rfl) (q_mgw rfl rfl) ?_
          refine q_blk 4 [] (c' := q_kc (t, 0, m, z, N, ext, rx, L) I E 32 [some (.ref 450), some (.int v1), some (.int v2), some (.ref r15)] [.int (0 : Int32), .ref r15, .ref 426] [(426, r18.1), (429, r18.2.1), (450, r18.2.2.1)] [(428, r18.2.2.2)]) ok_X7_readSum rfl q_cn ?_
          obtain ⟨r19, hr19, hf⟩ := q_bd hf
          refine q_kV (M2 := m_X6_addOrder) (As := [.ref r15, .int (0 : Int32)]) (b := 426) (v2 := none) ok_X7_readSum ok_X6_addOrder cv_X6_addOrder (ct_X6_addOrder_426 (d := 1) (Nat.le_refl _) hr19) rfl rfl (Or.inl rfl) rfl rfl rfl rfl (by omega) hk hn (Nat.le_of_ble_eq_true rfl) (fun x hx => absurd hx List.not_mem_nil) (q_nmL0 _) (q_nmS0 _) rfl (pos' := 33) (st' := []) (lI' := [(426, r19.1), (429, r19.2.1), (450, r18.2.2.1)]) (lE' := [(428, r19.2.2)]) rfl rfl (q_mgw rfl rfl) (q_mgw rfl rfl) ?_
          refine q_blk 2 [] (c' := q_kc (t, 0, m, z, N, ext, rx, L) I E 5 [some (.ref 450), some (.int v1), some (.int (v2 + 1)), some (.ref r15)] [] [(426, r19.1), (429, r19.2.1), (450, r18.2.2.1)] [(428, r19.2.2)]) ok_X7_readSum rfl q_cn ?_
          refine q_less (ls' := [some (.ref 450), some (.int v1), some (.int (v2 + 1)), none]) (q_sb2 (q_sb2 (q_sb2 (q_sb1 q_sb0)))) ?_
          exact ih (I := q_ws I [(426, r19.1), (429, r19.2.1), (450, r18.2.2.1)]) (E := q_ws E [(428, r19.2.2)]) hf (q_Jmrg (q_mgw rfl rfl) (q_mgw rfl rfl) hK0)
set_option maxHeartbeats 4000000 in
theorem ct_X7_readSum_450 {g : q_G} {t : Nat} {m : Nat} {z : Nat} {N : Nat} {ext : Nat → q_Sh} {rx : Nat → Nat → Option Nat} {L : Nat → Nat → Int64} {d dR : Nat} (hd : dR + 7 ≤ d)  {r_readValue : (Nat → Int32) → (Nat → Int32) → (Nat → Int32) → (Nat → Int32) → (Nat → Int32) → (Nat → Int32) → (Nat → Option Nat) → (Nat → Option Nat) → Int32 → Option ((Nat → Int32) × (Nat → Int32) × (Nat → Int32) × (Nat → Option Nat))} (hq_readValue : ∀ {I : Nat → Nat → Int32} {E : Nat → Nat → Option Nat} {dd : Int32} {r0 : (Nat → Int32) × (Nat → Int32) × (Nat → Int32) × (Nat → Option Nat)}, r_readValue ((I 426)) ((I 429)) ((I 450)) ((I 451)) ((I 452)) ((I 456)) ((E 428)) ((E 453)) dd = some r0 → q_Ct g m_X7_readValue dR 0 0 [] [.ref 450, .int dd] (q_hp (t, 0, m, z, N, ext, rx, L) I E) (fun o h' => o = .inl none ∧ h' = q_hp (t, 0, m, z, N, ext, rx, L) (q_ws I [(426, r0.1), (429, r0.2.1), (450, r0.2.2.1)]) (q_ws E [(428, r0.2.2.2)]))) {r_readSum : (Nat → Int32) → (Nat → Int32) → (Nat → Int32) → (Nat → Int32) → (Nat → Int32) → (Nat → Int32) → (Nat → Option Nat) → (Nat → Option Nat) → Int32 → Option ((Nat → Int32) × (Nat → Int32) × (Nat → Int32) × (Nat → Option Nat))} (hq_readSum : ∀ {I : Nat → Nat → Int32} {E : Nat → Nat → Option Nat} {dd : Int32} {r0 : (Nat → Int32) × (Nat → Int32) × (Nat → Int32) × (Nat → Option Nat)}, r_readSum ((I 426)) ((I 429)) ((I 450)) ((I 451)) ((I 452)) ((I 456)) ((E 428)) ((E 453)) dd = some r0 → q_Ct g m_X7_readSum dR 0 0 [] [.ref 450, .int dd] (q_hp (t, 0, m, z, N, ext, rx, L) I E) (fun o h' => o = .inl none ∧ h' = q_hp (t, 0, m, z, N, ext, rx, L) (q_ws I [(426, r0.1), (429, r0.2.1), (450, r0.2.2.1)]) (q_ws E [(428, r0.2.2.2)]))){I : Nat → Nat → Int32} {E : Nat → Nat → Option Nat} {x1 : Int32} {r0 : (Nat → Int32) × (Nat → Int32) × (Nat → Int32) × (Nat → Option Nat)} (hf : f_X7_readSum r_readValue r_readSum (I 426) (I 429) (I 450) (I 451) (I 452) (I 456) (E 428) (E 453) x1 = some r0) : q_Ct g m_X7_readSum d 0 0 [] [.ref 450, .int x1] (q_hp (t, 0, m, z, N, ext, rx, L) I E) (fun o h' => o = .inl none ∧ h' = q_hp (t, 0, m, z, N, ext, rx, L) (q_ws I [(426, r0.1), (429, r0.2.1), (450, r0.2.2.1)]) (q_ws E [(428, r0.2.2.2)])) := by
  rw [f_X7_readSum] at hf
  refine q_Ct_of ok_X7_readSum (Nat.le_of_ble_eq_true rfl) ?_ _ rfl rfl
  change q_J g m_X7_readSum d 0 0 _ [] _ 0 0 (q_kc (t, 0, m, z, N, ext, rx, L) I E 0 [some (.ref 450), some (.int x1), none, none] [] [] [])
  refine q_blk 2 [] (c' := q_kc (t, 0, m, z, N, ext, rx, L) I E 2 [some (.ref 450), some (.int x1), none, none] [.int x1, .ref 450] [] []) ok_X7_readSum rfl q_cn ?_
  obtain ⟨r20, hr20, hf⟩ := q_bd hf
  refine q_kV (M2 := m_X7_readProduct) (As := [.int x1]) (b := 450) (v2 := none) ok_X7_readSum ok_X7_readProduct cv_X7_readProduct (ct_X7_readProduct_450 (d := dR + 6) (Nat.le_refl _) hq_readValue hq_readSum hr20) rfl rfl (Or.inl rfl) rfl rfl rfl rfl (by omega) (Nat.le_of_ble_eq_true rfl) (Nat.le_of_ble_eq_true rfl) (Nat.le_of_ble_eq_true rfl) (fun x hx => absurd hx List.not_mem_nil) (q_nmL0 _) (q_nmS0 _) rfl (pos' := 3) (st' := []) (lI' := [(426, r20.1), (429, r20.2.1), (450, r20.2.2.1)]) (lE' := [(428, r20.2.2.2)]) rfl rfl (q_mgw rfl rfl) (q_mgw rfl rfl) ?_
  refine q_blk 2 [] (c' := q_kc (t, 0, m, z, N, ext, rx, L) I E 5 [some (.ref 450), some (.int x1), some (.int (0 : Int32)), none] [] [(426, r20.1), (429, r20.2.1), (450, r20.2.2.1)] [(428, r20.2.2.2)]) ok_X7_readSum rfl q_cn ?_
  obtain ⟨r21, hr21, hf⟩ := q_bd hf
  refine lp_X7_readSum_L5_450 (I := q_ws I [(426, r20.1), (429, r20.2.1), (450, r20.2.2.1)]) (E := q_ws E [(428, r20.2.2.2)]) hd (Nat.le_of_ble_eq_true rfl) (Nat.le_of_ble_eq_true rfl) hq_readValue hq_readSum 4096 hr21 ?_
  refine q_Jmrg (lI' := [(426, r21.1), (429, r21.2.1), (450, r21.2.2.1)]) (lE' := [(428, r21.2.2.2)]) (q_mgw rfl rfl) (q_mgw rfl rfl) ?_
  cases hf
  exact q_krv ok_X7_readSum rfl rfl (Nat.le_of_ble_eq_true rfl) (Nat.le_of_ble_eq_true rfl) ⟨rfl, q_hpe (q_pdw [426, 429, 450] rfl rfl) (q_pdw [428] rfl rfl)⟩
