set_option maxHeartbeats 4000000 in
theorem ct_X7_readNewHook_450 {g : q_G} {t : Nat} {m : Nat} {z : Nat} {N : Nat} {ext : Nat → q_Sh} {rx : Nat → Nat → Option Nat} {L : Nat → Nat → Int64} {d : Nat} (hd : 4 ≤ d)  {I : Nat → Nat → Int32} {E : Nat → Nat → Option Nat} {r0 : (Nat → Int32) × (Nat → Int32) × (Nat → Int32)} (hf : f_X7_readNewHook (I 426) (I 450) (I 451) (I 452) (I 456) (E 453) = some r0) : q_Ct g m_X7_readNewHook d 0 0 [] [.ref 450] (q_hp (t, 0, m, z, N, ext, rx, L) I E) (fun o h' => o = .inl none ∧ h' = q_hp (t, 0, m, z, N, ext, rx, L) (q_ws I [(426, r0.1), (450, r0.2.1), (451, r0.2.2)]) (q_ws E [])) := by
  rw [f_X7_readNewHook] at hf
  refine q_Ct_of ok_X7_readNewHook (Nat.le_of_ble_eq_true rfl) ?_ _ rfl rfl
  change q_J g m_X7_readNewHook d 0 0 _ [] _ 0 0 (q_kc (t, 0, m, z, N, ext, rx, L) I E 0 [some (.ref 450), none, none] [] [] [])
  refine q_blk 2 [] (c' := q_kc (t, 0, m, z, N, ext, rx, L) I E 2 [some (.ref 450), none, none] [.ref 3, .ref 450] [] []) ok_X7_readNewHook rfl q_cn ?_
  obtain ⟨r1, hr1, hf⟩ := q_bd hf
  refine q_kV (M2 := m_X7_take) (As := [.ref 3]) (b := 450) (v2 := some (.int (q_bz r1.1))) ok_X7_readNewHook ok_X7_take cv_X7_take (ct_X7_take_450 (d := 3) (Nat.le_refl _) hr1) rfl rfl (Or.inl rfl) rfl rfl rfl rfl (Nat.le_trans (Nat.le_of_ble_eq_true rfl) hd) (Nat.le_of_ble_eq_true rfl) (Nat.le_of_ble_eq_true rfl) (Nat.le_of_ble_eq_true rfl) (fun x hx => absurd hx List.not_mem_nil) (q_nmL0 _) (q_nmS0 _) rfl (pos' := 3) (st' := [.int (q_bz r1.1)]) (lI' := [(450, r1.2)]) (lE' := []) rfl rfl (q_mgw rfl rfl) rfl ?_
  refine q_blf 0 [] (a := q_kc (t, 0, m, z, N, ext, rx, L) I E 5 [some (.ref 450), none, none] [] [(450, r1.2)] []) (b := q_kc (t, 0, m, z, N, ext, rx, L) I E 4 [some (.ref 450), none, none] [] [(450, r1.2)] []) (P := ¬ (q_bz r1.1) = 0) ok_X7_readNewHook rfl q_cn (fun h2 => ?_) (fun h2 => ?_)
  · have hf := q_ip h2 hf
    refine q_blk 6 [] (c' := q_kc (t, 0, m, z, N, ext, rx, L) I E 11 [some (.ref 450), none, none] [.int ((r1.2 3) - (1 : Int32)), .ref 452] [(450, r1.2)] []) ok_X7_readNewHook rfl q_cn ?_
    obtain ⟨r3, hr3, hf⟩ := q_bd hf
    refine q_kV (M2 := m_X11_value) (As := [.int ((r1.2 3) - (1 : Int32))]) (b := 452) (v2 := some (.int r3)) ok_X7_readNewHook ok_X11_value cv_X11_value (ct_X11_value_452 (d := 1) (Nat.le_refl _) hr3) rfl rfl (Or.inl rfl) rfl rfl rfl rfl (Nat.le_trans (Nat.le_of_ble_eq_true rfl) hd) (Nat.le_of_ble_eq_true rfl) (Nat.le_of_ble_eq_true rfl) (Nat.le_of_ble_eq_true rfl) (fun x hx => absurd hx List.not_mem_nil) (q_nmL0 _) (q_nmS0 _) rfl (pos' := 12) (st' := [.int r3]) (lI' := [(450, r1.2)]) (lE' := []) rfl rfl rfl rfl ?_
    refine q_blk 7 [] (c' := q_kc (t, 0, m, z, N, ext, rx, L) I E 19 [some (.ref 450), some (.int r3), some (.int ((I 426) 3))] [.int r3, .ref 450] [(450, r1.2)] []) ok_X7_readNewHook rfl q_cn ?_
    obtain ⟨r4, hr4, hf⟩ := q_bd hf
    refine q_kV (M2 := m_X7_hookNamed) (As := [.int r3]) (b := 450) (v2 := some (.int r4)) ok_X7_readNewHook ok_X7_hookNamed cv_X7_hookNamed (ct_X7_hookNamed_450 (d := 1) (Nat.le_refl _) hr4) rfl rfl (Or.inl rfl) rfl rfl rfl rfl (Nat.le_trans (Nat.le_of_ble_eq_true rfl) hd) (Nat.le_of_ble_eq_true rfl) (Nat.le_of_ble_eq_true rfl) (Nat.le_of_ble_eq_true rfl) (fun x hx => absurd hx List.not_mem_nil) (q_nmL0 _) (q_nmS0 _) rfl (pos' := 20) (st' := [.int r4]) (lI' := [(450, r1.2)]) (lE' := []) rfl rfl rfl rfl ?_
    refine q_blf 1 [] (a := q_kc (t, 0, m, z, N, ext, rx, L) I E 30 [some (.ref 450), some (.int r3), some (.int ((I 426) 3))] [] [(450, r1.2)] []) (b := q_kc (t, 0, m, z, N, ext, rx, L) I E 22 [some (.ref 450), some (.int r3), some (.int ((I 426) 3))] [] [(450, r1.2)] []) (P := r4 = (-1 : Int32)) ok_X7_readNewHook rfl q_cn (fun h5 => ?_) (fun h5 => ?_)
    · have hf := q_ip h5 hf
      refine q_blf 1 [] (a := q_kc (t, 0, m, z, N, ext, rx, L) I E 35 [some (.ref 450), some (.int r3), some (.int ((I 426) 3))] [] [(450, r1.2)] []) (b := q_kc (t, 0, m, z, N, ext, rx, L) I E 32 [some (.ref 450), some (.int r3), some (.int ((I 426) 3))] [] [(450, r1.2)] []) (P := ((I 426) 3) < 0) ok_X7_readNewHook rfl q_cn (fun h6 => ?_) (fun h6 => ?_)
      · have hf := q_ip h6 hf
        refine q_blk 6 [] (c' := q_kc (t, 0, m, z, N, ext, rx, L) I E 41 [some (.ref 450), some (.int r3), some (.int ((I 426) 3))] [.int ((r1.2 3) - (1 : Int32)), .int (4 : Int32), .ref 450] [(450, r1.2)] []) ok_X7_readNewHook rfl q_cn ?_
        obtain ⟨r7, hr7, hf⟩ := q_bd hf
        refine q_kV (M2 := m_X7_blame) (As := [.int (4 : Int32), .int ((r1.2 3) - (1 : Int32))]) (b := 450) (v2 := none) ok_X7_readNewHook ok_X7_blame cv_X7_blame (ct_X7_blame_450 (d := 1) (Nat.le_refl _) hr7) rfl rfl (Or.inl rfl) rfl rfl rfl rfl (Nat.le_trans (Nat.le_of_ble_eq_true rfl) hd) (Nat.le_of_ble_eq_true rfl) (Nat.le_of_ble_eq_true rfl) (Nat.le_of_ble_eq_true rfl) (fun x hx => absurd hx List.not_mem_nil) (q_nmL0 _) (q_nmS0 _) rfl (pos' := 42) (st' := []) (lI' := [(450, r7)]) (lE' := []) rfl rfl (q_mgw rfl rfl) rfl ?_
        refine q_blk 1 [] (c' := q_kc (t, 0, m, z, N, ext, rx, L) I E 54 [some (.ref 450), some (.int r3), some (.int ((I 426) 3))] [] [(450, r7)] []) ok_X7_readNewHook rfl q_cn ?_
        cases hf
        exact q_krv ok_X7_readNewHook rfl rfl (Nat.le_of_ble_eq_true rfl) (Nat.le_of_ble_eq_true rfl) ⟨rfl, q_hpe (q_pdw [426, 450, 451] rfl rfl) (q_pdw [] rfl rfl)⟩
      · have hf := q_in h6 hf
        refine q_blf 2 [] (a := q_kc (t, 0, m, z, N, ext, rx, L) I E 43 [some (.ref 450), some (.int r3), some (.int ((I 426) 3))] [] [(450, r1.2)] []) (b := q_kc (t, 0, m, z, N, ext, rx, L) I E 35 [some (.ref 450), some (.int r3), some (.int ((I 426) 3))] [] [(450, r1.2)] []) (P := ((I 426) 3) < (6 : Int32)) ok_X7_readNewHook rfl q_cn (fun h8 => ?_) (fun h8 => ?_)
        · have hf := q_ip h8 hf
          obtain ⟨j9, hj9, hf⟩ := q_bd hf
          refine q_blk 11 [j9] (c' := q_kc (t, 0, m, z, N, ext, rx, L) I E 54 [some (.ref 450), some (.int r3), some (.int ((I 426) 3))] [] [(426, (q_up (I 426) 3 (((I 426) 3) + (1 : Int32)))), (450, r1.2), (451, (q_up (I 451) j9 r3))] []) ok_X7_readNewHook rfl (q_cc hj9 q_cn) ?_
          cases hf
          exact q_krv ok_X7_readNewHook rfl rfl (Nat.le_of_ble_eq_true rfl) (Nat.le_of_ble_eq_true rfl) ⟨rfl, q_hpe (q_pdw [426, 450, 451] rfl rfl) (q_pdw [] rfl rfl)⟩
        · have hf := q_in h8 hf
          refine q_blk 6 [] (c' := q_kc (t, 0, m, z, N, ext, rx, L) I E 41 [some (.ref 450), some (.int r3), some (.int ((I 426) 3))] [.int ((r1.2 3) - (1 : Int32)), .int (4 : Int32), .ref 450] [(450, r1.2)] []) ok_X7_readNewHook rfl q_cn ?_
          obtain ⟨r10, hr10, hf⟩ := q_bd hf
          refine q_kV (M2 := m_X7_blame) (As := [.int (4 : Int32), .int ((r1.2 3) - (1 : Int32))]) (b := 450) (v2 := none) ok_X7_readNewHook ok_X7_blame cv_X7_blame (ct_X7_blame_450 (d := 1) (Nat.le_refl _) hr10) rfl rfl (Or.inl rfl) rfl rfl rfl rfl (Nat.le_trans (Nat.le_of_ble_eq_true rfl) hd) (Nat.le_of_ble_eq_true rfl) (Nat.le_of_ble_eq_true rfl) (Nat.le_of_ble_eq_true rfl) (fun x hx => absurd hx List.not_mem_nil) (q_nmL0 _) (q_nmS0 _) rfl (pos' := 42) (st' := []) (lI' := [(450, r10)]) (lE' := []) rfl rfl (q_mgw rfl rfl) rfl ?_
          refine q_blk 1 [] (c' := q_kc (t, 0, m, z, N, ext, rx, L) I E 54 [some (.ref 450), some (.int r3), some (.int ((I 426) 3))] [] [(450, r10)] []) ok_X7_readNewHook rfl q_cn ?_
          cases hf
          exact q_krv ok_X7_readNewHook rfl rfl (Nat.le_of_ble_eq_true rfl) (Nat.le_of_ble_eq_true rfl) ⟨rfl, q_hpe (q_pdw [426, 450, 451] rfl rfl) (q_pdw [] rfl rfl)⟩
    · have hf := q_in h5 hf
      refine q_blk 6 [] (c' := q_kc (t, 0, m, z, N, ext, rx, L) I E 28 [some (.ref 450), some (.int r3), some (.int ((I 426) 3))] [.int ((r1.2 3) - (1 : Int32)), .int (2 : Int32), .ref 450] [(450, r1.2)] []) ok_X7_readNewHook rfl q_cn ?_
      obtain ⟨r11, hr11, hf⟩ := q_bd hf
      refine q_kV (M2 := m_X7_blame) (As := [.int (2 : Int32), .int ((r1.2 3) - (1 : Int32))]) (b := 450) (v2 := none) ok_X7_readNewHook ok_X7_blame cv_X7_blame (ct_X7_blame_450 (d := 1) (Nat.le_refl _) hr11) rfl rfl (Or.inl rfl) rfl rfl rfl rfl (Nat.le_trans (Nat.le_of_ble_eq_true rfl) hd) (Nat.le_of_ble_eq_true rfl) (Nat.le_of_ble_eq_true rfl) (Nat.le_of_ble_eq_true rfl) (fun x hx => absurd hx List.not_mem_nil) (q_nmL0 _) (q_nmS0 _) rfl (pos' := 29) (st' := []) (lI' := [(450, r11)]) (lE' := []) rfl rfl (q_mgw rfl rfl) rfl ?_
      refine q_blk 1 [] (c' := q_kc (t, 0, m, z, N, ext, rx, L) I E 54 [some (.ref 450), some (.int r3), some (.int ((I 426) 3))] [] [(450, r11)] []) ok_X7_readNewHook rfl q_cn ?_
      cases hf
      exact q_krv ok_X7_readNewHook rfl rfl (Nat.le_of_ble_eq_true rfl) (Nat.le_of_ble_eq_true rfl) ⟨rfl, q_hpe (q_pdw [426, 450, 451] rfl rfl) (q_pdw [] rfl rfl)⟩
  · have hf := q_in h2 hf
    cases hf
    exact q_krv ok_X7_readNewHook rfl rfl (Nat.le_of_ble_eq_true rfl) (Nat.le_of_ble_eq_true rfl) ⟨rfl, q_hpe (q_pdw [426, 450, 451] rfl rfl) (q_pdw [] rfl rfl)⟩
set_option maxHeartbeats 4000000 in
theorem ct_X7_readSetting_450 {g : q_G} {t : Nat} {m : Nat} {z : Nat} {N : Nat} {ext : Nat → q_Sh} {rx : Nat → Nat → Option Nat} {L : Nat → Nat → Int64} {d : Nat} (hd : 5 ≤ d)  {I : Nat → Nat → Int32} {E : Nat → Nat → Option Nat} {r0 : (Nat → Int32) × (Nat → Int32) × (Nat → Int32)} (hf : f_X7_readSetting (I 426) (I 450) (I 451) (I 452) (I 456) (E 453) = some r0) : q_Ct g m_X7_readSetting d 0 0 [] [.ref 450] (q_hp (t, 0, m, z, N, ext, rx, L) I E) (fun o h' => o = .inl none ∧ h' = q_hp (t, 0, m, z, N, ext, rx, L) (q_ws I [(426, r0.1), (450, r0.2.1), (451, r0.2.2)]) (q_ws E [])) := by
  rw [f_X7_readSetting] at hf
  refine q_Ct_of ok_X7_readSetting (Nat.le_of_ble_eq_true rfl) ?_ _ rfl rfl
  change q_J g m_X7_readSetting d 0 0 _ [] _ 0 0 (q_kc (t, 0, m, z, N, ext, rx, L) I E 0 [some (.ref 450)] [] [] [])
  refine q_blk 2 [] (c' := q_kc (t, 0, m, z, N, ext, rx, L) I E 2 [some (.ref 450)] [.ref 450, .ref 50] [] []) ok_X7_readSetting rfl q_cn ?_
  obtain ⟨r1, hr1, hf⟩ := q_bd hf
  obtain ⟨u2, hu3, hf⟩ := q_bd hf
  refine q_kV (M2 := m_X7_sign) (As := []) (b := 450) (v2 := some (.ref r1)) ok_X7_readSetting ok_X7_sign cv_X7_sign (ct_X7_sign_450 (d := 2) (Nat.le_refl _) hr1) rfl rfl (Or.inl rfl) rfl rfl rfl rfl (Nat.le_trans (Nat.le_of_ble_eq_true rfl) hd) (Nat.le_of_ble_eq_true rfl) (Nat.le_of_ble_eq_true rfl) (Nat.le_of_ble_eq_true rfl) (fun x hx => absurd hx List.not_mem_nil) (q_nmL0 _) (q_nmS0 _) rfl (pos' := 3) (st' := [.ref r1, .ref 50]) (lI' := []) (lE' := []) rfl rfl rfl rfl ?_
  refine q_kord (pos' := 4) ok_X7_readSetting rfl rfl (q_e49_lt hu3) (Nat.le_trans (Nat.le_of_ble_eq_true rfl) hd) (Nat.le_of_ble_eq_true rfl) (Nat.le_of_ble_eq_true rfl) (Nat.le_of_ble_eq_true rfl) rfl ?_
  obtain ⟨j4, hj4, hf⟩ := q_bd hf
  refine q_blk 1 [j4] (c' := q_kc (t, 0, m, z, N, ext, rx, L) I E 5 [some (.ref 450)] [.int (q_sw j4)] [] []) ok_X7_readSetting rfl (q_cc hj4 q_cn) ?_
  refine q_ksw [6, 20, 34, 48] ok_X7_readSetting rfl (dp := 57) rfl (fun ix t9 ht9 hx9 => ?_) (fun hx9 => ?_) (by decide) (by decide)
  · match ix, ht9 with
    | 0, ht9 =>
      have hx9 : (q_sw j4) = 1 := hx9
      cases ht9
      have hf := q_ip hx9 hf
      refine q_blk 11 [] (c' := q_kc (t, 0, m, z, N, ext, rx, L) I E 17 [some (.ref 450)] [.int (64 : Int32), .int (8 : Int32), .ref 450, .ref 426] [(450, (q_up (I 450) 3 (((I 450) 3) + (1 : Int32))))] []) ok_X7_readSetting rfl q_cn ?_
      obtain ⟨r5, hr5, hf⟩ := q_bd hf
      refine q_kV (M2 := m_X7_readNumber) (As := [.int (8 : Int32), .int (64 : Int32)]) (b := 450) (v2 := some (.int r5.1)) ok_X7_readSetting ok_X7_readNumber cv_X7_readNumber (ct_X7_readNumber_450 (d := 4) (Nat.le_refl _) hr5) rfl rfl (Or.inl rfl) rfl rfl rfl rfl (Nat.le_trans (Nat.le_of_ble_eq_true rfl) hd) (Nat.le_of_ble_eq_true rfl) (Nat.le_of_ble_eq_true rfl) (Nat.le_of_ble_eq_true rfl) (fun x hx => absurd hx List.not_mem_nil) (q_nmL0 _) (q_nmS0 _) rfl (pos' := 18) (st' := [.int r5.1, .ref 426]) (lI' := [(450, r5.2)]) (lE' := []) rfl rfl (q_mgw rfl rfl) rfl ?_
      refine q_blk 2 [] (c' := q_kc (t, 0, m, z, N, ext, rx, L) I E 59 [some (.ref 450)] [] [(426, (q_up (I 426) 0 r5.1)), (450, r5.2)] []) ok_X7_readSetting rfl q_cn ?_
      cases hf
      exact q_krv ok_X7_readSetting rfl rfl (Nat.le_of_ble_eq_true rfl) (Nat.le_of_ble_eq_true rfl) ⟨rfl, q_hpe (q_pdw [426, 450, 451] rfl rfl) (q_pdw [] rfl rfl)⟩
    | 1, ht9 =>
      have hx9 : (q_sw j4) = 2 := hx9
      cases ht9
      have hf := q_in (fun hz9 => absurd (hx9.symm.trans hz9) (by decide)) hf
      have hf := q_ip hx9 hf
      refine q_blk 11 [] (c' := q_kc (t, 0, m, z, N, ext, rx, L) I E 31 [some (.ref 450)] [.int (64 : Int32), .int (0 : Int32), .ref 450, .ref 426] [(450, (q_up (I 450) 3 (((I 450) 3) + (1 : Int32))))] []) ok_X7_readSetting rfl q_cn ?_
      obtain ⟨r6, hr6, hf⟩ := q_bd hf
      refine q_kV (M2 := m_X7_readNumber) (As := [.int (0 : Int32), .int (64 : Int32)]) (b := 450) (v2 := some (.int r6.1)) ok_X7_readSetting ok_X7_readNumber cv_X7_readNumber (ct_X7_readNumber_450 (d := 4) (Nat.le_refl _) hr6) rfl rfl (Or.inl rfl) rfl rfl rfl rfl (Nat.le_trans (Nat.le_of_ble_eq_true rfl) hd) (Nat.le_of_ble_eq_true rfl) (Nat.le_of_ble_eq_true rfl) (Nat.le_of_ble_eq_true rfl) (fun x hx => absurd hx List.not_mem_nil) (q_nmL0 _) (q_nmS0 _) rfl (pos' := 32) (st' := [.int r6.1, .ref 426]) (lI' := [(450, r6.2)]) (lE' := []) rfl rfl (q_mgw rfl rfl) rfl ?_
      refine q_blk 2 [] (c' := q_kc (t, 0, m, z, N, ext, rx, L) I E 59 [some (.ref 450)] [] [(426, (q_up (I 426) 1 r6.1)), (450, r6.2)] []) ok_X7_readSetting rfl q_cn ?_
      cases hf
      exact q_krv ok_X7_readSetting rfl rfl (Nat.le_of_ble_eq_true rfl) (Nat.le_of_ble_eq_true rfl) ⟨rfl, q_hpe (q_pdw [426, 450, 451] rfl rfl) (q_pdw [] rfl rfl)⟩
    | 2, ht9 =>
      have hx9 : (q_sw j4) = 3 := hx9
      cases ht9
      have hf := q_in (fun hz9 => absurd (hx9.symm.trans hz9) (by decide)) hf
      have hf := q_in (fun hz9 => absurd (hx9.symm.trans hz9) (by decide)) hf
      have hf := q_ip hx9 hf
      refine q_blk 11 [] (c' := q_kc (t, 0, m, z, N, ext, rx, L) I E 45 [some (.ref 450)] [.int (5 : Int32), .int (0 : Int32), .ref 450, .ref 426] [(450, (q_up (I 450) 3 (((I 450) 3) + (1 : Int32))))] []) ok_X7_readSetting rfl q_cn ?_
      obtain ⟨r7, hr7, hf⟩ := q_bd hf
      refine q_kV (M2 := m_X7_readNumber) (As := [.int (0 : Int32), .int (5 : Int32)]) (b := 450) (v2 := some (.int r7.1)) ok_X7_readSetting ok_X7_readNumber cv_X7_readNumber (ct_X7_readNumber_450 (d := 4) (Nat.le_refl _) hr7) rfl rfl (Or.inl rfl) rfl rfl rfl rfl (Nat.le_trans (Nat.le_of_ble_eq_true rfl) hd) (Nat.le_of_ble_eq_true rfl) (Nat.le_of_ble_eq_true rfl) (Nat.le_of_ble_eq_true rfl) (fun x hx => absurd hx List.not_mem_nil) (q_nmL0 _) (q_nmS0 _) rfl (pos' := 46) (st' := [.int r7.1, .ref 426]) (lI' := [(450, r7.2)]) (lE' := []) rfl rfl (q_mgw rfl rfl) rfl ?_
      refine q_blk 2 [] (c' := q_kc (t, 0, m, z, N, ext, rx, L) I E 59 [some (.ref 450)] [] [(426, (q_up (I 426) 2 r7.1)), (450, r7.2)] []) ok_X7_readSetting rfl q_cn ?_
      cases hf
      exact q_krv ok_X7_readSetting rfl rfl (Nat.le_of_ble_eq_true rfl) (Nat.le_of_ble_eq_true rfl) ⟨rfl, q_hpe (q_pdw [426, 450, 451] rfl rfl) (q_pdw [] rfl rfl)⟩
    | 3, ht9 =>
      have hx9 : (q_sw j4) = 4 := hx9
      cases ht9
      have hf := q_in (fun hz9 => absurd (hx9.symm.trans hz9) (by decide)) hf
      have hf := q_in (fun hz9 => absurd (hx9.symm.trans hz9) (by decide)) hf
      have hf := q_in (fun hz9 => absurd (hx9.symm.trans hz9) (by decide)) hf
      have hf := q_ip hx9 hf
      refine q_blk 7 [] (c' := q_kc (t, 0, m, z, N, ext, rx, L) I E 55 [some (.ref 450)] [.ref 450] [(450, (q_up (I 450) 3 (((I 450) 3) + (1 : Int32))))] []) ok_X7_readSetting rfl q_cn ?_
      obtain ⟨r8, hr8, hf⟩ := q_bd hf
      refine q_kV (M2 := m_X7_readNewHook) (As := []) (b := 450) (v2 := none) ok_X7_readSetting ok_X7_readNewHook cv_X7_readNewHook (ct_X7_readNewHook_450 (d := 4) (Nat.le_refl _) hr8) rfl rfl (Or.inl rfl) rfl rfl rfl rfl (Nat.le_trans (Nat.le_of_ble_eq_true rfl) hd) (Nat.le_of_ble_eq_true rfl) (Nat.le_of_ble_eq_true rfl) (Nat.le_of_ble_eq_true rfl) (fun x hx => absurd hx List.not_mem_nil) (q_nmL0 _) (q_nmS0 _) rfl (pos' := 56) (st' := []) (lI' := [(426, r8.1), (450, r8.2.1), (451, r8.2.2)]) (lE' := []) rfl rfl (q_mgw rfl rfl) rfl ?_
      refine q_blk 1 [] (c' := q_kc (t, 0, m, z, N, ext, rx, L) I E 59 [some (.ref 450)] [] [(426, r8.1), (450, r8.2.1), (451, r8.2.2)] []) ok_X7_readSetting rfl q_cn ?_
      cases hf
      exact q_krv ok_X7_readSetting rfl rfl (Nat.le_of_ble_eq_true rfl) (Nat.le_of_ble_eq_true rfl) ⟨rfl, q_hpe (q_pdw [426, 450, 451] rfl rfl) (q_pdw [] rfl rfl)⟩
    | z9 + 4, ht9 => cases ht9
  · have hf := q_in (hx9 0 (by decide)) hf
    have hf := q_in (hx9 1 (by decide)) hf
    have hf := q_in (hx9 2 (by decide)) hf
    have hf := q_in (hx9 3 (by decide)) hf
    refine q_blk 1 [] (c' := q_kc (t, 0, m, z, N, ext, rx, L) I E 58 [some (.ref 450)] [.ref 450] [] []) ok_X7_readSetting rfl q_cn ?_
    obtain ⟨r9, hr9, hf⟩ := q_bd hf
    refine q_kV (M2 := m_X7_fail) (As := []) (b := 450) (v2 := none) ok_X7_readSetting ok_X7_fail cv_X7_fail (ct_X7_fail_450 (d := 1) (Nat.le_refl _) hr9) rfl rfl (Or.inl rfl) rfl rfl rfl rfl (Nat.le_trans (Nat.le_of_ble_eq_true rfl) hd) (Nat.le_of_ble_eq_true rfl) (Nat.le_of_ble_eq_true rfl) (Nat.le_of_ble_eq_true rfl) (fun x hx => absurd hx List.not_mem_nil) (q_nmL0 _) (q_nmS0 _) rfl (pos' := 59) (st' := []) (lI' := [(450, r9)]) (lE' := []) rfl rfl (q_mgw rfl rfl) rfl ?_
    cases hf
    exact q_krv ok_X7_readSetting rfl rfl (Nat.le_of_ble_eq_true rfl) (Nat.le_of_ble_eq_true rfl) ⟨rfl, q_hpe (q_pdw [426, 450, 451] rfl rfl) (q_pdw [] rfl rfl)⟩
set_option maxHeartbeats 4000000 in
theorem lp_X7_read_L18_450_426 {g : q_G} {d mc ms : Nat} {h0 : q_H} {Q : (Option Value ⊕ String) → q_H → Prop} {k n : Nat} {t : Nat} {m : Nat} {z : Nat} {N : Nat} {ext : Nat → q_Sh} {rx : Nat → Nat → Option Nat} {L : Nat → Nat → Int64} (hd : 402 ≤ d) (hk : k ≤ mc) (hn : n ≤ ms)  : ∀ (fu : Nat) {I : Nat → Nat → Int32} {E : Nat → Nat → Option Nat} {T2 : Nat → Nat → Int32} {K2 : Nat → Nat → Option Nat} {v3 : Int32} {r0 : (Nat → Int32) × (Nat → Int32) × (Nat → Int32) × (Nat → Int32) × (Nat → Option Nat) × (Nat → Nat → Int32) × (Nat → Nat → Option Nat)} (hf : f_X7_read_L18 (I 452) (I 456) (E 453) fu (I 426) (I 429) (I 450) (I 451) (E 428) T2 K2 v3 = some r0) (hK0 : q_J g m_X7_read d mc ms h0 [] Q k n (q_kc (t, 0, m, z, N, ext, rx, L) (q_tW I 430 r0.2.2.2.2.2.1) (q_tW E 430 r0.2.2.2.2.2.2) 46 [some (.ref 450), none, none, none] [] [(426, r0.1), (429, r0.2.1), (450, r0.2.2.1), (451, r0.2.2.2.1)] [(428, r0.2.2.2.2.1)])), q_J g m_X7_read d mc ms h0 [] Q k n (18, [some (.ref 450), none, none, some (.int v3)], [], q_hp (t, 0, m, z, N, ext, rx, L) (q_tW I 430 T2) (q_tW E 430 K2)) := by
  intro fu
  induction fu with
  | zero =>
    intro I E T2 K2 v3 r0 hf hK0
    rw [f_X7_read_L18] at hf
    cases hf
  | succ fu ih =>
    intro I E T2 K2 v3 r0 hf hK0
    rw [f_X7_read_L18] at hf
    change q_J g m_X7_read d mc ms h0 [] Q k n (q_kc (t, 0, m, z, N, ext, rx, L) (q_tW I 430 T2) (q_tW E 430 K2) 18 [some (.ref 450), none, none, some (.int v3)] [] [] [])
    refine q_blf 2 [] (a := q_kc (t, 0, m, z, N, ext, rx, L) (q_tW I 430 T2) (q_tW E 430 K2) 46 [some (.ref 450), none, none, some (.int v3)] [] [] []) (b := q_kc (t, 0, m, z, N, ext, rx, L) (q_tW I 430 T2) (q_tW E 430 K2) 21 [some (.ref 450), none, none, some (.int v3)] [] [] []) (P := (400 : Int32) < v3) ok_X7_read rfl q_cn (fun h1 => ?_) (fun h1 => ?_)
    · have hf := q_ip h1 hf
      refine q_less (ls' := [some (.ref 450), none, none, none]) (q_sb2 (q_sb1 (q_sb1 (q_sb1 q_sb0)))) ?_
      cases hf
      exact q_Jpad (q_pdw [426, 429, 450, 451] rfl rfl) (q_pdw [428] rfl rfl) hK0
    · have hf := q_in h1 hf
      refine q_blk 1 [] (c' := q_kc (t, 0, m, z, N, ext, rx, L) (q_tW I 430 T2) (q_tW E 430 K2) 22 [some (.ref 450), none, none, some (.int v3)] [.ref 450] [] []) ok_X7_read rfl q_cn ?_
      obtain ⟨r2, hr2, hf⟩ := q_bd hf
      obtain ⟨u3, hu4, hf⟩ := q_bd hf
      refine q_kV (M2 := m_X7_sign) (As := []) (b := 450) (v2 := some (.ref r2)) ok_X7_read ok_X7_sign cv_X7_sign (ct_X7_sign_450 (d := 2) (Nat.le_refl _) hr2) rfl rfl (Or.inl rfl) rfl rfl rfl rfl (Nat.le_trans (Nat.le_of_ble_eq_true rfl) hd) hk hn (Nat.le_of_ble_eq_true rfl) (fun x hx => absurd hx List.not_mem_nil) (q_nmL0 _) (q_nmS0 _) rfl (pos' := 23) (st' := [.ref r2]) (lI' := []) (lE' := []) rfl rfl rfl rfl ?_
      refine q_blk 1 [] (c' := q_kc (t, 0, m, z, N, ext, rx, L) (q_tW I 430 T2) (q_tW E 430 K2) 24 [some (.ref 450), none, none, some (.int v3)] [.ref 0, .ref r2] [] []) ok_X7_read rfl q_cn ?_
      refine q_o_acmp_eq ok_X7_read rfl (q_e49_lt hu4) (Nat.lt_of_lt_of_le (Nat.lt_succ_self _) (Nat.le_of_ble_eq_true rfl)) (fun h5 => ?_) (fun h5 => ?_)
      · have hf := q_ip h5 hf
        refine q_less (ls' := [some (.ref 450), none, none, none]) (q_sb2 (q_sb1 (q_sb1 (q_sb1 q_sb0)))) ?_
        cases hf
        exact q_Jpad (q_pdw [426, 429, 450, 451] rfl rfl) (q_pdw [428] rfl rfl) hK0
      · have hf := q_in h5 hf
        refine q_blf 3 [] (a := q_kc (t, 0, m, z, N, ext, rx, L) (q_tW I 430 T2) (q_tW E 430 K2) 46 [some (.ref 450), none, none, some (.int v3)] [] [] []) (b := q_kc (t, 0, m, z, N, ext, rx, L) (q_tW I 430 T2) (q_tW E 430 K2) 29 [some (.ref 450), none, none, some (.int v3)] [] [] []) (P := ((I 450) 4) = (1 : Int32)) ok_X7_read rfl q_cn (fun h6 => ?_) (fun h6 => ?_)
        · have hf := q_ip h6 hf
          refine q_less (ls' := [some (.ref 450), none, none, none]) (q_sb2 (q_sb1 (q_sb1 (q_sb1 q_sb0)))) ?_
          cases hf
          exact q_Jpad (q_pdw [426, 429, 450, 451] rfl rfl) (q_pdw [428] rfl rfl) hK0
        · have hf := q_in h6 hf
          refine q_blk 1 [] (c' := q_kc (t, 0, m, z, N, ext, rx, L) (q_tW I 430 T2) (q_tW E 430 K2) 30 [some (.ref 450), none, none, some (.int v3)] [.ref 450] [] []) ok_X7_read rfl q_cn ?_
          obtain ⟨r7, hr7, hf⟩ := q_bd hf
          obtain ⟨u8, hu9, hf⟩ := q_bd hf
          refine q_kV (M2 := m_X7_sign) (As := []) (b := 450) (v2 := some (.ref r7)) ok_X7_read ok_X7_sign cv_X7_sign (ct_X7_sign_450 (d := 2) (Nat.le_refl _) hr7) rfl rfl (Or.inl rfl) rfl rfl rfl rfl (Nat.le_trans (Nat.le_of_ble_eq_true rfl) hd) hk hn (Nat.le_of_ble_eq_true rfl) (fun x hx => absurd hx List.not_mem_nil) (q_nmL0 _) (q_nmS0 _) rfl (pos' := 31) (st' := [.ref r7]) (lI' := []) (lE' := []) rfl rfl rfl rfl ?_
          obtain ⟨r10, hr10, hf⟩ := q_bd hf
          refine q_kS (M2 := m_X7_isStep) (As := [.ref r7]) (v2 := some (.int (q_bz r10))) ok_X7_read ok_X7_isStep cs_X7_isStep (ct_X7_isStep (d := 1) (Nat.le_refl _) hr10) rfl rfl (Or.inl rfl) (Nat.le_trans (Nat.le_of_ble_eq_true rfl) hd) hk hn (Nat.le_of_ble_eq_true rfl) (fun x hx => absurd hx List.not_mem_nil) (q_nmL0 _) (q_nmS0 _) rfl (pos' := 32) (st' := [.int (q_bz r10)]) (lI' := []) (lE' := []) rfl rfl rfl rfl ?_
          refine q_blf 0 [] (a := q_kc (t, 0, m, z, N, ext, rx, L) (q_tW I 430 T2) (q_tW E 430 K2) 38 [some (.ref 450), none, none, some (.int v3)] [] [] []) (b := q_kc (t, 0, m, z, N, ext, rx, L) (q_tW I 430 T2) (q_tW E 430 K2) 33 [some (.ref 450), none, none, some (.int v3)] [] [] []) (P := (q_bz r10) = 0) ok_X7_read rfl q_cn (fun h11 => ?_) (fun h11 => ?_)
          · have hf := q_ip h11 hf
            refine q_blk 1 [] (c' := q_kc (t, 0, m, z, N, ext, rx, L) (q_tW I 430 T2) (q_tW E 430 K2) 39 [some (.ref 450), none, none, some (.int v3)] [.ref 450] [] []) ok_X7_read rfl q_cn ?_
            obtain ⟨r12, hr12, hf⟩ := q_bd hf
            refine q_kV (M2 := m_X7_readSetting) (As := []) (b := 450) (v2 := none) ok_X7_read ok_X7_readSetting cv_X7_readSetting (ct_X7_readSetting_450 (d := 5) (Nat.le_refl _) hr12) rfl rfl (Or.inl rfl) rfl rfl rfl rfl (Nat.le_trans (Nat.le_of_ble_eq_true rfl) hd) hk hn (Nat.le_of_ble_eq_true rfl) (fun x hx => absurd hx List.not_mem_nil) (q_nmL0 _) (q_nmS0 _) rfl (pos' := 40) (st' := []) (lI' := [(426, r12.1), (450, r12.2.1), (451, r12.2.2)]) (lE' := []) rfl rfl (q_mgw rfl rfl) rfl ?_
            refine q_blk 2 [] (c' := q_kc (t, 0, m, z, N, ext, rx, L) (q_tW I 430 T2) (q_tW E 430 K2) 42 [some (.ref 450), none, none, some (.int v3)] [.ref 38, .ref 450] [(426, r12.1), (450, r12.2.1), (451, r12.2.2)] []) ok_X7_read rfl q_cn ?_
            obtain ⟨r13, hr13, hf⟩ := q_bd hf
            refine q_kV (M2 := m_X7_take) (As := [.ref 38]) (b := 450) (v2 := some (.int (q_bz r13.1))) ok_X7_read ok_X7_take cv_X7_take (ct_X7_take_450 (d := 3) (Nat.le_refl _) hr13) rfl rfl (Or.inl rfl) rfl rfl rfl rfl (Nat.le_trans (Nat.le_of_ble_eq_true rfl) hd) hk hn (Nat.le_of_ble_eq_true rfl) (fun x hx => absurd hx List.not_mem_nil) (q_nmL0 _) (q_nmS0 _) rfl (pos' := 43) (st' := [.int (q_bz r13.1)]) (lI' := [(426, r12.1), (450, r13.2), (451, r12.2.2)]) (lE' := []) rfl rfl (q_mgw rfl rfl) rfl ?_
            refine q_blk 3 [] (c' := q_kc (t, 0, m, z, N, ext, rx, L) (q_tW I 430 T2) (q_tW E 430 K2) 18 [some (.ref 450), none, none, some (.int (v3 + 1))] [] [(426, r12.1), (450, r13.2), (451, r12.2.2)] []) ok_X7_read rfl q_cn ?_
            refine q_JtW rfl rfl ?_
            exact ih (I := q_ws I [(426, r12.1), (450, r13.2), (451, r12.2.2)]) (E := q_ws E []) (T2 := T2) (K2 := K2) hf (q_JtWm rfl rfl (q_mgw rfl rfl) (q_mgw rfl rfl) hK0)
          · have hf := q_in h11 hf
            refine q_blk 2 [] (c' := q_kc (t, 0, m, z, N, ext, rx, L) (q_tW I 430 T2) (q_tW E 430 K2) 35 [some (.ref 450), none, none, some (.int v3)] [.ref 450, .ref 450] [] []) ok_X7_read rfl q_cn ?_
            obtain ⟨r14, hr14, hf⟩ := q_bd hf
            obtain ⟨u15, hu16, hf⟩ := q_bd hf
            refine q_kV (M2 := m_X7_sign) (As := []) (b := 450) (v2 := some (.ref r14)) ok_X7_read ok_X7_sign cv_X7_sign (ct_X7_sign_450 (d := 2) (Nat.le_refl _) hr14) rfl rfl (Or.inl rfl) rfl rfl rfl rfl (Nat.le_trans (Nat.le_of_ble_eq_true rfl) hd) hk hn (Nat.le_of_ble_eq_true rfl) (fun x hx => absurd hx List.not_mem_nil) (q_nmL0 _) (q_nmS0 _) rfl (pos' := 36) (st' := [.ref r14, .ref 450]) (lI' := []) (lE' := []) rfl rfl rfl rfl ?_
            obtain ⟨r17, hr17, hf⟩ := q_bd hf
            refine q_kVT (M2 := m_X7_readStep) (As := [.ref r14]) (b := 450) (v3 := none) ok_X7_read ok_X7_readStep cv_X7_readStep (ct_X7_readStep_450 (d := 401) (Nat.le_refl _) hr17) rfl rfl (Or.inl rfl) rfl rfl rfl rfl (Nat.le_trans (Nat.le_of_ble_eq_true rfl) hd) hk hn (Nat.le_of_ble_eq_true rfl) (fun x hx => absurd hx List.not_mem_nil) (q_nmL0 _) (q_nmS0 _) rfl (pos' := 37) (st' := []) (lI' := [(426, r17.1), (429, r17.2.1), (450, r17.2.2.1)]) (lE' := [(428, r17.2.2.2.1)]) rfl rfl (q_mgw rfl rfl) (q_mgw rfl rfl) rfl rfl ?_
            refine q_blk 3 [] (c' := q_kc (t, 0, m, z, N, ext, rx, L) (q_tW I 430 r17.2.2.2.2.1) (q_tW E 430 r17.2.2.2.2.2) 42 [some (.ref 450), none, none, some (.int v3)] [.ref 38, .ref 450] [(426, r17.1), (429, r17.2.1), (450, r17.2.2.1)] [(428, r17.2.2.2.1)]) ok_X7_read rfl q_cn ?_
            obtain ⟨r18, hr18, hf⟩ := q_bd hf
            refine q_kV (M2 := m_X7_take) (As := [.ref 38]) (b := 450) (v2 := some (.int (q_bz r18.1))) ok_X7_read ok_X7_take cv_X7_take (ct_X7_take_450 (d := 3) (Nat.le_refl _) hr18) rfl rfl (Or.inl rfl) rfl rfl rfl rfl (Nat.le_trans (Nat.le_of_ble_eq_true rfl) hd) hk hn (Nat.le_of_ble_eq_true rfl) (fun x hx => absurd hx List.not_mem_nil) (q_nmL0 _) (q_nmS0 _) rfl (pos' := 43) (st' := [.int (q_bz r18.1)]) (lI' := [(426, r17.1), (429, r17.2.1), (450, r18.2)]) (lE' := [(428, r17.2.2.2.1)]) rfl rfl (q_mgw rfl rfl) rfl ?_
            refine q_blk 3 [] (c' := q_kc (t, 0, m, z, N, ext, rx, L) (q_tW I 430 r17.2.2.2.2.1) (q_tW E 430 r17.2.2.2.2.2) 18 [some (.ref 450), none, none, some (.int (v3 + 1))] [] [(426, r17.1), (429, r17.2.1), (450, r18.2)] [(428, r17.2.2.2.1)]) ok_X7_read rfl q_cn ?_
            refine q_JtW rfl rfl ?_
            exact ih (I := q_ws I [(426, r17.1), (429, r17.2.1), (450, r18.2)]) (E := q_ws E [(428, r17.2.2.2.1)]) (T2 := r17.2.2.2.2.1) (K2 := r17.2.2.2.2.2) hf (q_JtWm rfl rfl (q_mgw rfl rfl) (q_mgw rfl rfl) hK0)
set_option maxHeartbeats 4000000 in
theorem ct_X7_read_450_426 {g : q_G} {t : Nat} {m : Nat} {z : Nat} {N : Nat} {ext : Nat → q_Sh} {rx : Nat → Nat → Option Nat} {L : Nat → Nat → Int64} {d : Nat} (hd : 402 ≤ d)  {I : Nat → Nat → Int32} {E : Nat → Nat → Option Nat} {T2 : Nat → Nat → Int32} {K2 : Nat → Nat → Option Nat} {x1 : Int32} {r0 : Int32 × (Nat → Int32) × (Nat → Int32) × (Nat → Int32) × (Nat → Int32) × (Nat → Int32) × (Nat → Int32) × (Nat → Int32) × (Nat → Int32) × (Nat → Option Nat) × (Nat → Option Nat) × (Nat → Nat → Int32) × (Nat → Nat → Option Nat)} (hf : f_X7_read (I 401) (I 426) (I 429) (I 450) (I 451) (I 452) (I 454) (I 455) (I 456) (E 428) (E 453) T2 K2 x1 = some r0) : q_Ct g m_X7_read d 0 0 [] [.ref 450, .int x1, .ref 426] (q_hp (t, 1, m, z, N, ext, rx, L) (q_tW I 430 T2) (q_tW E 430 K2)) (fun o h' => o = .inl (some (.int r0.1)) ∧ h' = q_hp (t, 0, m, z, N, ext, rx, L) (q_ws (q_tW I 430 r0.2.2.2.2.2.2.2.2.2.2.2.1) [(426, r0.2.1), (429, r0.2.2.1), (450, r0.2.2.2.1), (451, r0.2.2.2.2.1), (452, r0.2.2.2.2.2.1), (454, r0.2.2.2.2.2.2.1), (455, r0.2.2.2.2.2.2.2.1), (456, r0.2.2.2.2.2.2.2.2.1)]) (q_ws (q_tW E 430 r0.2.2.2.2.2.2.2.2.2.2.2.2) [(428, r0.2.2.2.2.2.2.2.2.2.1), (453, r0.2.2.2.2.2.2.2.2.2.2.1)])) := by
  rw [f_X7_read] at hf
  refine q_Ct_of ok_X7_read (Nat.le_of_ble_eq_true rfl) ?_ _ rfl rfl
  change q_J g m_X7_read d 0 0 _ [] _ 0 0 (q_kc (t, 1, m, z, N, ext, rx, L) (q_tW I 430 T2) (q_tW E 430 K2) 0 [some (.ref 450), some (.int x1), some (.ref 426), none] [] [] [])
  refine q_blk 3 [] (c' := q_kc (t, 1, m, z, N, ext, rx, L) (q_tW I 430 T2) (q_tW E 430 K2) 3 [some (.ref 450), some (.int x1), some (.ref 426), none] [.int x1, .ref 452] [] []) ok_X7_read rfl q_cn ?_
  obtain ⟨r19, hr19, hf⟩ := q_bd hf
  refine q_kV (M2 := m_X11_split) (As := [.int x1]) (b := 452) (v2 := none) ok_X7_read ok_X11_split cv_X11_split (ct_X11_split_452 (d := 12) (Nat.le_refl _) hr19) rfl rfl (Or.inl rfl) rfl rfl rfl rfl (Nat.le_trans (Nat.le_of_ble_eq_true rfl) hd) (Nat.le_of_ble_eq_true rfl) (Nat.le_of_ble_eq_true rfl) (Nat.le_of_ble_eq_true rfl) (fun x hx => absurd hx List.not_mem_nil) (q_nmL0 _) (q_nmS0 _) rfl (pos' := 4) (st' := []) (lI' := [(452, r19.1), (454, r19.2.1), (455, r19.2.2.1), (456, r19.2.2.2.1)]) (lE' := [(453, r19.2.2.2.2)]) rfl rfl (q_mgw rfl rfl) (q_mgw rfl rfl) ?_
  refine q_blk 2 [] (c' := q_kc (t, 1, m, z, N, ext, rx, L) (q_tW I 430 T2) (q_tW E 430 K2) 6 [some (.ref 450), some (.int x1), some (.ref 426), none] [.ref 426, .ref 450] [(452, r19.1), (454, r19.2.1), (455, r19.2.2.1), (456, r19.2.2.2.1)] [(453, r19.2.2.2.2)]) ok_X7_read rfl q_cn ?_
  refine q_kp9 (pos' := 7) (X2 := (t, 0, m, z, N, ext, rx, L)) ok_X7_read rfl rfl rfl rfl (q_oth_of (ci := 6) (v := 1) (k := 2) (by decide +kernel)) (q_shX_r _ _ _ _) (q_u2_id rfl) rfl rfl rfl ?_
  refine q_blk 2 [] (c' := q_kc (t, 0, m, z, N, ext, rx, L) (q_tW I 430 T2) (q_tW E 430 K2) 9 [some (.ref 450), some (.int x1), some (.ref 426), none] [.ref 426] [(452, r19.1), (454, r19.2.1), (455, r19.2.2.1), (456, r19.2.2.2.1)] [(453, r19.2.2.2.2)]) ok_X7_read rfl q_cn ?_
  obtain ⟨r20, hr20, hf⟩ := q_bd hf
  refine q_kV (M2 := m_X6_clear) (As := []) (b := 426) (v2 := none) ok_X7_read ok_X6_clear cv_X6_clear (ct_X6_clear_426 (d := 1) (Nat.le_refl _) hr20) rfl rfl (Or.inl rfl) rfl rfl rfl rfl (Nat.le_trans (Nat.le_of_ble_eq_true rfl) hd) (Nat.le_of_ble_eq_true rfl) (Nat.le_of_ble_eq_true rfl) (Nat.le_of_ble_eq_true rfl) (fun x hx => absurd hx List.not_mem_nil) (q_nmL0 _) (q_nmS0 _) rfl (pos' := 10) (st' := []) (lI' := [(426, r20), (452, r19.1), (454, r19.2.1), (455, r19.2.2.1), (456, r19.2.2.2.1)]) (lE' := [(453, r19.2.2.2.2)]) rfl rfl (q_mgw rfl rfl) rfl ?_
  refine q_blk 8 [] (c' := q_kc (t, 0, m, z, N, ext, rx, L) (q_tW I 430 T2) (q_tW E 430 K2) 18 [some (.ref 450), some (.int x1), some (.ref 426), some (.int (0 : Int32))] [] [(426, r20), (450, (q_up (q_up (I 450) 3 (0 : Int32)) 4 (0 : Int32))), (452, r19.1), (454, r19.2.1), (455, r19.2.2.1), (456, r19.2.2.2.1)] [(453, r19.2.2.2.2)]) ok_X7_read rfl q_cn ?_
  refine q_less (ls' := [some (.ref 450), none, none, some (.int (0 : Int32))]) (q_sb2 (q_sb1 (q_sb1 (q_sb2 q_sb0)))) ?_
  obtain ⟨r21, hr21, hf⟩ := q_bd hf
  refine q_JtW rfl rfl ?_
  refine lp_X7_read_L18_450_426 (I := q_ws I [(426, r20), (450, (q_up (q_up (I 450) 3 (0 : Int32)) 4 (0 : Int32))), (452, r19.1), (454, r19.2.1), (455, r19.2.2.1), (456, r19.2.2.2.1)]) (E := q_ws E [(453, r19.2.2.2.2)]) hd (Nat.le_of_ble_eq_true rfl) (Nat.le_of_ble_eq_true rfl) 4096 hr21 ?_
  refine q_JtWm rfl rfl (lI' := [(426, r21.1), (429, r21.2.1), (450, r21.2.2.1), (451, r21.2.2.2.1), (452, r19.1), (454, r19.2.1), (455, r19.2.2.1), (456, r19.2.2.2.1)]) (lE' := [(428, r21.2.2.2.2.1), (453, r19.2.2.2.2)]) (q_mgw rfl rfl) (q_mgw rfl rfl) ?_
  refine q_blk 2 [] (c' := q_kc (t, 0, m, z, N, ext, rx, L) (q_tW I 430 r21.2.2.2.2.2.1) (q_tW E 430 r21.2.2.2.2.2.2) 48 [some (.ref 450), none, none, none] [.int (r21.2.2.1 4)] [(426, r21.1), (429, r21.2.1), (450, r21.2.2.1), (451, r21.2.2.2.1), (452, r19.1), (454, r19.2.1), (455, r19.2.2.1), (456, r19.2.2.2.1)] [(428, r21.2.2.2.2.1), (453, r19.2.2.2.2)]) ok_X7_read rfl q_cn ?_
  cases hf
  exact q_kri ok_X7_read rfl rfl rfl (Nat.le_of_ble_eq_true rfl) (Nat.le_of_ble_eq_true rfl) ⟨rfl, q_hpe (q_pdw [426, 429, 450, 451, 452, 454, 455, 456] rfl rfl) (q_pdw [428, 453] rfl rfl)⟩
set_option maxHeartbeats 4000000 in
theorem ct_X11_position_452 {g : q_G} {t : Nat} {r : Nat} {m : Nat} {z : Nat} {N : Nat} {ext : Nat → q_Sh} {rx : Nat → Nat → Option Nat} {L : Nat → Nat → Int64} {d : Nat} (hd : 1 ≤ d)  {I : Nat → Nat → Int32} {E : Nat → Nat → Option Nat} {x1 : Int32} {r0 : Int32} (hf : f_X11_position (I 452) (I 454) x1 = some r0) : q_Ct g m_X11_position d 0 0 [] [.ref 452, .int x1] (q_hp (t, r, m, z, N, ext, rx, L) I E) (fun o h' => o = .inl (some (.int r0)) ∧ h' = q_hp (t, r, m, z, N, ext, rx, L) (q_ws I []) (q_ws E [])) := by
  rw [f_X11_position] at hf
  refine q_Ct_of ok_X11_position (Nat.le_of_ble_eq_true rfl) ?_ _ rfl rfl
  change q_J g m_X11_position d 0 0 _ [] _ 0 0 (q_kc (t, r, m, z, N, ext, rx, L) I E 0 [some (.ref 452), some (.int x1)] [] [] [])
  refine q_blf 1 [] (a := q_kc (t, r, m, z, N, ext, rx, L) I E 14 [some (.ref 452), some (.int x1)] [] [] []) (b := q_kc (t, r, m, z, N, ext, rx, L) I E 2 [some (.ref 452), some (.int x1)] [] [] []) (P := x1 < 0) ok_X11_position rfl q_cn (fun h1 => ?_) (fun h1 => ?_)
  · have hf := q_ip h1 hf
    refine q_blk 2 [] (c' := q_kc (t, r, m, z, N, ext, rx, L) I E 16 [some (.ref 452), some (.int x1)] [.int ((I 452) 5)] [] []) ok_X11_position rfl q_cn ?_
    cases hf
    exact q_kri ok_X11_position rfl rfl rfl (Nat.le_of_ble_eq_true rfl) (Nat.le_of_ble_eq_true rfl) ⟨rfl, q_hpe (q_pdw [] rfl rfl) (q_pdw [] rfl rfl)⟩
  · have hf := q_in h1 hf
    refine q_blf 3 [] (a := q_kc (t, r, m, z, N, ext, rx, L) I E 14 [some (.ref 452), some (.int x1)] [] [] []) (b := q_kc (t, r, m, z, N, ext, rx, L) I E 6 [some (.ref 452), some (.int x1)] [] [] []) (P := ((I 452) 6) ≤ x1) ok_X11_position rfl q_cn (fun h2 => ?_) (fun h2 => ?_)
    · have hf := q_ip h2 hf
      refine q_blk 2 [] (c' := q_kc (t, r, m, z, N, ext, rx, L) I E 16 [some (.ref 452), some (.int x1)] [.int ((I 452) 5)] [] []) ok_X11_position rfl q_cn ?_
      cases hf
      exact q_kri ok_X11_position rfl rfl rfl (Nat.le_of_ble_eq_true rfl) (Nat.le_of_ble_eq_true rfl) ⟨rfl, q_hpe (q_pdw [] rfl rfl) (q_pdw [] rfl rfl)⟩
    · have hf := q_in h2 hf
      refine q_blf 2 [] (a := q_kc (t, r, m, z, N, ext, rx, L) I E 14 [some (.ref 452), some (.int x1)] [] [] []) (b := q_kc (t, r, m, z, N, ext, rx, L) I E 9 [some (.ref 452), some (.int x1)] [] [] []) (P := (400 : Int32) < x1) ok_X11_position rfl q_cn (fun h3 => ?_) (fun h3 => ?_)
      · have hf := q_ip h3 hf
        refine q_blk 2 [] (c' := q_kc (t, r, m, z, N, ext, rx, L) I E 16 [some (.ref 452), some (.int x1)] [.int ((I 452) 5)] [] []) ok_X11_position rfl q_cn ?_
        cases hf
        exact q_kri ok_X11_position rfl rfl rfl (Nat.le_of_ble_eq_true rfl) (Nat.le_of_ble_eq_true rfl) ⟨rfl, q_hpe (q_pdw [] rfl rfl) (q_pdw [] rfl rfl)⟩
      · have hf := q_in h3 hf
        obtain ⟨j4, hj4, hf⟩ := q_bd hf
        refine q_blk 5 [j4] (c' := q_kc (t, r, m, z, N, ext, rx, L) I E 16 [some (.ref 452), some (.int x1)] [.int ((I 454) j4)] [] []) ok_X11_position rfl (q_cc hj4 q_cn) ?_
        cases hf
        exact q_kri ok_X11_position rfl rfl rfl (Nat.le_of_ble_eq_true rfl) (Nat.le_of_ble_eq_true rfl) ⟨rfl, q_hpe (q_pdw [] rfl rfl) (q_pdw [] rfl rfl)⟩
set_option maxHeartbeats 4000000 in
theorem ct_X7_position_450 {g : q_G} {t : Nat} {m : Nat} {z : Nat} {N : Nat} {ext : Nat → q_Sh} {rx : Nat → Nat → Option Nat} {L : Nat → Nat → Int64} {d : Nat} (hd : 2 ≤ d)  {I : Nat → Nat → Int32} {E : Nat → Nat → Option Nat} {r0 : Int32} (hf : f_X7_position (I 450) (I 452) (I 454) = some r0) : q_Ct g m_X7_position d 0 0 [] [.ref 450] (q_hp (t, 0, m, z, N, ext, rx, L) I E) (fun o h' => o = .inl (some (.int r0)) ∧ h' = q_hp (t, 0, m, z, N, ext, rx, L) (q_ws I []) (q_ws E [])) := by
  rw [f_X7_position] at hf
  refine q_Ct_of ok_X7_position (Nat.le_of_ble_eq_true rfl) ?_ _ rfl rfl
  change q_J g m_X7_position d 0 0 _ [] _ 0 0 (q_kc (t, 0, m, z, N, ext, rx, L) I E 0 [some (.ref 450)] [] [] [])
  refine q_blf 2 [] (a := q_kc (t, 0, m, z, N, ext, rx, L) I E 5 [some (.ref 450)] [] [] []) (b := q_kc (t, 0, m, z, N, ext, rx, L) I E 3 [some (.ref 450)] [] [] []) (P := ¬ ((I 450) 4) = 0) ok_X7_position rfl q_cn (fun h1 => ?_) (fun h1 => ?_)
  · have hf := q_ip h1 hf
    refine q_blk 4 [] (c' := q_kc (t, 0, m, z, N, ext, rx, L) I E 9 [some (.ref 450)] [.int ((I 450) 5), .ref 452] [] []) ok_X7_position rfl q_cn ?_
    obtain ⟨r2, hr2, hf⟩ := q_bd hf
    refine q_kV (M2 := m_X11_position) (As := [.int ((I 450) 5)]) (b := 452) (v2 := some (.int r2)) ok_X7_position ok_X11_position cv_X11_position (ct_X11_position_452 (d := 1) (Nat.le_refl _) hr2) rfl rfl (Or.inl rfl) rfl rfl rfl rfl (Nat.le_trans (Nat.le_of_ble_eq_true rfl) hd) (Nat.le_of_ble_eq_true rfl) (Nat.le_of_ble_eq_true rfl) (Nat.le_of_ble_eq_true rfl) (fun x hx => absurd hx List.not_mem_nil) (q_nmL0 _) (q_nmS0 _) rfl (pos' := 10) (st' := [.int r2]) (lI' := []) (lE' := []) rfl rfl rfl rfl ?_
    cases hf
    exact q_kri ok_X7_position rfl rfl rfl (Nat.le_of_ble_eq_true rfl) (Nat.le_of_ble_eq_true rfl) ⟨rfl, q_hpe (q_pdw [] rfl rfl) (q_pdw [] rfl rfl)⟩
  · have hf := q_in h1 hf
    refine q_blk 2 [] (c' := q_kc (t, 0, m, z, N, ext, rx, L) I E 10 [some (.ref 450)] [.int (-1 : Int32)] [] []) ok_X7_position rfl q_cn ?_
    cases hf
    exact q_kri ok_X7_position rfl rfl rfl (Nat.le_of_ble_eq_true rfl) (Nat.le_of_ble_eq_true rfl) ⟨rfl, q_hpe (q_pdw [] rfl rfl) (q_pdw [] rfl rfl)⟩
set_option maxHeartbeats 4000000 in
theorem ct_X1_clear_458 {g : q_G} {t : Nat} {r : Nat} {m : Nat} {z : Nat} {N : Nat} {ext : Nat → q_Sh} {rx : Nat → Nat → Option Nat} {L : Nat → Nat → Int64} {d : Nat} (hd : 2 ≤ d)  {I : Nat → Nat → Int32} {E : Nat → Nat → Option Nat} {r0 : (Nat → Int32)} (hf : f_X1_clear (I 459) = some r0) : q_Ct g m_X1_clear d 0 0 [] [.ref 458] (q_hp (t, r, m, z, N, ext, rx, L) I E) (fun o h' => o = .inl none ∧ h' = q_hp (t, r, m, z, N, ext, rx, L) (q_ws I [(459, r0)]) (q_ws E [])) := by
  rw [f_X1_clear] at hf
  refine q_Ct_of ok_X1_clear (Nat.le_of_ble_eq_true rfl) ?_ _ rfl rfl
  change q_J g m_X1_clear d 0 0 _ [] _ 0 0 (q_kc (t, r, m, z, N, ext, rx, L) I E 0 [some (.ref 458)] [] [] [])
  refine q_blk 3 [] (c' := q_kc (t, r, m, z, N, ext, rx, L) I E 3 [some (.ref 458)] [.int (0 : Int32), .ref 459] [] []) ok_X1_clear rfl q_cn ?_
  refine q_kS (M2 := m_J7_fill_53178) (As := [.ref 459, .int (0 : Int32)]) (v2 := none) ok_X1_clear ok_J7_fill_53178 cs_J7_fill_53178 (ct_fill (d := 1) (a := 459) (L := 128) (Nat.le_refl _) rfl rfl rfl) rfl rfl (Or.inl rfl) (Nat.le_trans (Nat.le_of_ble_eq_true rfl) hd) (Nat.le_of_ble_eq_true rfl) (Nat.le_of_ble_eq_true rfl) (Nat.le_of_ble_eq_true rfl) (fun x hx => absurd hx List.not_mem_nil) (q_nmL0 _) (q_nmS0 _) rfl (pos' := 4) (st' := []) (lI' := [(459, (q_fil 128 (0 : Int32) (I 459)))]) (lE' := []) rfl rfl (q_mgw rfl rfl) rfl ?_
  cases hf
  exact q_krv ok_X1_clear rfl rfl (Nat.le_of_ble_eq_true rfl) (Nat.le_of_ble_eq_true rfl) ⟨rfl, q_hpe (q_pdw [459] rfl rfl) (q_pdw [] rfl rfl)⟩
set_option maxHeartbeats 4000000 in
theorem ct_X5_clear_465 {g : q_G} {t : Nat} {r : Nat} {m : Nat} {z : Nat} {N : Nat} {ext : Nat → q_Sh} {rx : Nat → Nat → Option Nat} {L : Nat → Nat → Int64} {d : Nat} (hd : 2 ≤ d)  {I : Nat → Nat → Int32} {E : Nat → Nat → Option Nat} {x1 : Int32} {r0 : (Nat → Int32) × (Nat → Int32)} (hf : f_X5_clear (I 465) (I 466) x1 = some r0) : q_Ct g m_X5_clear d 0 0 [] [.ref 465, .int x1] (q_hp (t, r, m, z, N, ext, rx, L) I E) (fun o h' => o = .inl none ∧ h' = q_hp (t, r, m, z, N, ext, rx, L) (q_ws I [(465, r0.1), (466, r0.2)]) (q_ws E [])) := by
  rw [f_X5_clear] at hf
  refine q_Ct_of ok_X5_clear (Nat.le_of_ble_eq_true rfl) ?_ _ rfl rfl
  change q_J g m_X5_clear d 0 0 _ [] _ 0 0 (q_kc (t, r, m, z, N, ext, rx, L) I E 0 [some (.ref 465), some (.int x1)] [] [] [])
  refine q_blk 3 [] (c' := q_kc (t, r, m, z, N, ext, rx, L) I E 3 [some (.ref 465), some (.int x1)] [.int (-1 : Int32), .ref 466] [] []) ok_X5_clear rfl q_cn ?_
  refine q_kS (M2 := m_J7_fill_53178) (As := [.ref 466, .int (-1 : Int32)]) (v2 := none) ok_X5_clear ok_J7_fill_53178 cs_J7_fill_53178 (ct_fill (d := 1) (a := 466) (L := 64) (Nat.le_refl _) rfl rfl rfl) rfl rfl (Or.inl rfl) (Nat.le_trans (Nat.le_of_ble_eq_true rfl) hd) (Nat.le_of_ble_eq_true rfl) (Nat.le_of_ble_eq_true rfl) (Nat.le_of_ble_eq_true rfl) (fun x hx => absurd hx List.not_mem_nil) (q_nmL0 _) (q_nmS0 _) rfl (pos' := 4) (st' := []) (lI' := [(466, (q_fil 64 (-1 : Int32) (I 466)))]) (lE' := []) rfl rfl (q_mgw rfl rfl) rfl ?_
  refine q_blk 3 [] (c' := q_kc (t, r, m, z, N, ext, rx, L) I E 7 [some (.ref 465), some (.int x1)] [.int (0 : Int32), .int x1, .ref 465] [(466, (q_fil 64 (-1 : Int32) (I 466)))] []) ok_X5_clear rfl q_cn ?_
  refine q_kmx (pos' := 8) ok_X5_clear rfl rfl (Nat.le_trans (Nat.le_of_ble_eq_true rfl) hd) (Nat.le_of_ble_eq_true rfl) (Nat.le_of_ble_eq_true rfl) (Nat.le_of_ble_eq_true rfl) rfl ?_
  refine q_blk 1 [] (c' := q_kc (t, r, m, z, N, ext, rx, L) I E 9 [some (.ref 465), some (.int x1)] [.int (64 : Int32), .int (q_max x1 (0 : Int32)), .ref 465] [(466, (q_fil 64 (-1 : Int32) (I 466)))] []) ok_X5_clear rfl q_cn ?_
  refine q_kmn (pos' := 10) ok_X5_clear rfl rfl (Nat.le_trans (Nat.le_of_ble_eq_true rfl) hd) (Nat.le_of_ble_eq_true rfl) (Nat.le_of_ble_eq_true rfl) (Nat.le_of_ble_eq_true rfl) rfl ?_
  refine q_blk 4 [] (c' := q_kc (t, r, m, z, N, ext, rx, L) I E 14 [some (.ref 465), some (.int x1)] [] [(465, (q_up (q_up (I 465) 1 (q_min (q_max x1 (0 : Int32)) (64 : Int32))) 2 (0 : Int32))), (466, (q_fil 64 (-1 : Int32) (I 466)))] []) ok_X5_clear rfl q_cn ?_
  cases hf
  exact q_krv ok_X5_clear rfl rfl (Nat.le_of_ble_eq_true rfl) (Nat.le_of_ble_eq_true rfl) ⟨rfl, q_hpe (q_pdw [465, 466] rfl rfl) (q_pdw [] rfl rfl)⟩
set_option maxHeartbeats 4000000 in
theorem ct_X2_begin_457_402 {g : q_G} {t : Nat} {r : Nat} {m : Nat} {z : Nat} {N : Nat} {ext : Nat → q_Sh} {rx : Nat → Nat → Option Nat} {L : Nat → Nat → Int64} {d : Nat} (hd : 3 ≤ d)  {I : Nat → Nat → Int32} {E : Nat → Nat → Option Nat} {r0 : (Nat → Int32) × (Nat → Int32) × (Nat → Int32) × (Nat → Int32) × (Nat → Int32)} (hf : f_X2_begin (I 402) (I 457) (I 459) (I 465) (I 466) (I 470) = some r0) : q_Ct g m_X2_begin d 0 0 [] [.ref 457, .ref 402] (q_hp (t, r, m, z, N, ext, rx, L) I E) (fun o h' => o = .inl none ∧ h' = q_hp (t, r, m, z, N, ext, rx, L) (q_ws I [(457, r0.1), (459, r0.2.1), (465, r0.2.2.1), (466, r0.2.2.2.1), (470, r0.2.2.2.2)]) (q_ws E [])) := by
  rw [f_X2_begin] at hf
  refine q_Ct_of ok_X2_begin (Nat.le_of_ble_eq_true rfl) ?_ _ rfl rfl
  change q_J g m_X2_begin d 0 0 _ [] _ 0 0 (q_kc (t, r, m, z, N, ext, rx, L) I E 0 [some (.ref 457), some (.ref 402)] [] [] [])
  refine q_blk 2 [] (c' := q_kc (t, r, m, z, N, ext, rx, L) I E 2 [some (.ref 457), some (.ref 402)] [.ref 402, .ref 457] [] []) ok_X2_begin rfl q_cn ?_
  refine q_kpS (pos' := 3) ok_X2_begin rfl rfl rfl rfl rfl rfl rfl ?_
  refine q_blk 2 [] (c' := q_kc (t, r, m, z, N, ext, rx, L) I E 5 [some (.ref 457), some (.ref 402)] [.ref 458] [] []) ok_X2_begin rfl q_cn ?_
  obtain ⟨r1, hr1, hf⟩ := q_bd hf
  refine q_kV (M2 := m_X1_clear) (As := []) (b := 458) (v2 := none) ok_X2_begin ok_X1_clear cv_X1_clear (ct_X1_clear_458 (d := 2) (Nat.le_refl _) hr1) rfl rfl (Or.inl rfl) rfl rfl rfl rfl (Nat.le_trans (Nat.le_of_ble_eq_true rfl) hd) (Nat.le_of_ble_eq_true rfl) (Nat.le_of_ble_eq_true rfl) (Nat.le_of_ble_eq_true rfl) (fun x hx => absurd hx List.not_mem_nil) (q_nmL0 _) (q_nmS0 _) rfl (pos' := 6) (st' := []) (lI' := [(459, r1)]) (lE' := []) rfl rfl (q_mgw rfl rfl) rfl ?_
  refine q_blk 4 [] (c' := q_kc (t, r, m, z, N, ext, rx, L) I E 10 [some (.ref 457), some (.ref 402)] [.int ((I 402) 1), .ref 465] [(459, r1)] []) ok_X2_begin rfl q_cn ?_
  obtain ⟨r2, hr2, hf⟩ := q_bd hf
  refine q_kV (M2 := m_X5_clear) (As := [.int ((I 402) 1)]) (b := 465) (v2 := none) ok_X2_begin ok_X5_clear cv_X5_clear (ct_X5_clear_465 (d := 2) (Nat.le_refl _) hr2) rfl rfl (Or.inl rfl) rfl rfl rfl rfl (Nat.le_trans (Nat.le_of_ble_eq_true rfl) hd) (Nat.le_of_ble_eq_true rfl) (Nat.le_of_ble_eq_true rfl) (Nat.le_of_ble_eq_true rfl) (fun x hx => absurd hx List.not_mem_nil) (q_nmL0 _) (q_nmS0 _) rfl (pos' := 11) (st' := []) (lI' := [(459, r1), (465, r2.1), (466, r2.2)]) (lE' := []) rfl rfl (q_mgw rfl rfl) rfl ?_
  refine q_blk 3 [] (c' := q_kc (t, r, m, z, N, ext, rx, L) I E 14 [some (.ref 457), some (.ref 402)] [.int (-1 : Int32), .ref 470] [(459, r1), (465, r2.1), (466, r2.2)] []) ok_X2_begin rfl q_cn ?_
  refine q_kS (M2 := m_J7_fill_53178) (As := [.ref 470, .int (-1 : Int32)]) (v2 := none) ok_X2_begin ok_J7_fill_53178 cs_J7_fill_53178 (ct_fill (d := 1) (a := 470) (L := 6) (Nat.le_refl _) rfl rfl rfl) rfl rfl (Or.inl rfl) (Nat.le_trans (Nat.le_of_ble_eq_true rfl) hd) (Nat.le_of_ble_eq_true rfl) (Nat.le_of_ble_eq_true rfl) (Nat.le_of_ble_eq_true rfl) (fun x hx => absurd hx List.not_mem_nil) (q_nmL0 _) (q_nmS0 _) rfl (pos' := 15) (st' := []) (lI' := [(459, r1), (465, r2.1), (466, r2.2), (470, (q_fil 6 (-1 : Int32) (I 470)))]) (lE' := []) rfl rfl (q_mgw rfl rfl) rfl ?_
  refine q_blk 24 [] (c' := q_kc (t, r, m, z, N, ext, rx, L) I E 39 [some (.ref 457), some (.ref 402)] [] [(457, (q_up (q_up (q_up (q_up (q_up (q_up (q_up (q_up (I 457) 7 (0 : Int32)) 8 (0 : Int32)) 9 (0 : Int32)) 10 (0 : Int32)) 11 (0 : Int32)) 12 (0 : Int32)) 13 (0 : Int32)) 14 (0 : Int32))), (459, r1), (465, r2.1), (466, r2.2), (470, (q_fil 6 (-1 : Int32) (I 470)))] []) ok_X2_begin rfl q_cn ?_
  cases hf
  exact q_krv ok_X2_begin rfl rfl (Nat.le_of_ble_eq_true rfl) (Nat.le_of_ble_eq_true rfl) ⟨rfl, q_hpe (q_pdw [457, 459, 465, 466, 470] rfl rfl) (q_pdw [] rfl rfl)⟩
