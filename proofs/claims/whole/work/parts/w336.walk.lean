set_option maxHeartbeats 4000000 in
theorem ct_X15_isStep_492_P {g : q_G} {t : Nat} {r : Nat} {ext : Nat → q_Sh} {rx : Nat → Nat → Option Nat} {L : Nat → Nat → Int64} {d : Nat} (hd : 401 ≤ d)  {I : Nat → Nat → Int32} {E : Nat → Nat → Option Nat} {x1 : Int32} {r0 : Bool × (Nat → Int32) × (Nat → Int32) × (Nat → Int32) × (Nat → Int32) × (Nat → Int32) × (Nat → Int32) × (Nat → Int32) × (Nat → Int32)} (hf : f_X15_isStep (I 492) (I 493) (I 494) (I 495) (I 496) (I 497) (I 529) (I 534) (I 535) (I 536) (I 537) (I 538) x1 = some r0) : q_Ct g m_X15_isStep d 0 0 [] [.ref 492, .int x1] (q_hp (t, r, 0, 529, 539, (q_pE ext), (q_pR rx), L) I E) (fun o h' => o = .inl (some (.int (q_bz r0.1))) ∧ h' = q_hp (t, r, 0, 529, 539, (q_pE ext), (q_pR rx), L) (q_ws I [(492, r0.2.1), (497, r0.2.2.1), (529, r0.2.2.2.1), (534, r0.2.2.2.2.1), (535, r0.2.2.2.2.2.1), (536, r0.2.2.2.2.2.2.1), (537, r0.2.2.2.2.2.2.2.1), (538, r0.2.2.2.2.2.2.2.2)]) (q_ws E [])) := by
  rw [f_X15_isStep] at hf
  refine q_Ct_of ok_X15_isStep (Nat.le_of_ble_eq_true rfl) ?_ _ rfl rfl
  change q_J g m_X15_isStep d 0 0 _ [] _ 0 0 (q_kc (t, r, 0, 529, 539, (q_pE ext), (q_pR rx), L) I E 0 [some (.ref 492), some (.int x1), none] [] [] [])
  obtain ⟨j1, hj1, hf⟩ := q_bd hf
  refine q_blk 16 [j1] (c' := q_kc (t, r, 0, 529, 539, (q_pE ext), (q_pR rx), L) I E 16 [some (.ref 492), some (.int x1), none] [.int (20 : Int32), .int ((I 529) 5)] [(492, (q_up (I 492) 9 (((I 492) 9) + (1 : Int32)))), (497, (q_up (I 497) j1 (2 : Int32)))] []) ok_X15_isStep rfl (q_cc hj1 q_cn) ?_
  refine q_kmn (pos' := 17) ok_X15_isStep rfl rfl (Nat.le_trans (Nat.le_of_ble_eq_true rfl) hd) (Nat.le_of_ble_eq_true rfl) (Nat.le_of_ble_eq_true rfl) (Nat.le_of_ble_eq_true rfl) rfl ?_
  refine q_blk 11 [] (c' := q_kc (t, r, 0, 529, 539, (q_pE ext), (q_pR rx), L) I E 28 [some (.ref 492), some (.int x1), some (.int (q_min ((I 529) 5) (20 : Int32)))] [.int (3 : Int32), .int (40 : Int32), .ref 492] [(492, (q_up (I 492) 9 (((I 492) 9) + (1 : Int32)))), (497, (q_up (I 497) j1 (2 : Int32))), (529, (q_up (I 529) 5 (((I 529) 5) + (1 : Int32))))] []) ok_X15_isStep rfl q_cn ?_
  obtain ⟨r2, hr2, hf⟩ := q_bd hf
  refine q_kV (M2 := m_X15_eatAs) (As := [.int (40 : Int32), .int (3 : Int32)]) (b := 492) (v2 := some (.int (q_bz r2.1))) ok_X15_isStep ok_X15_eatAs cv_X15_eatAs (ct_X15_eatAs_492_P (d := 3) (Nat.le_refl _) hr2) rfl rfl (Or.inl rfl) rfl rfl rfl rfl (Nat.le_trans (Nat.le_of_ble_eq_true rfl) hd) (Nat.le_of_ble_eq_true rfl) (Nat.le_of_ble_eq_true rfl) (Nat.le_of_ble_eq_true rfl) (fun x hx => absurd hx List.not_mem_nil) (q_nmL0 _) (q_nmS0 _) rfl (pos' := 29) (st' := [.int (q_bz r2.1)]) (lI' := [(492, r2.2.1), (497, r2.2.2), (529, (q_up (I 529) 5 (((I 529) 5) + (1 : Int32))))]) (lE' := []) rfl rfl (q_mgw rfl rfl) rfl ?_
  refine q_blf 0 [] (a := q_kc (t, r, 0, 529, 539, (q_pE ext), (q_pR rx), L) I E 32 [some (.ref 492), some (.int x1), some (.int (q_min ((I 529) 5) (20 : Int32)))] [] [(492, r2.2.1), (497, r2.2.2), (529, (q_up (I 529) 5 (((I 529) 5) + (1 : Int32))))] []) (b := q_kc (t, r, 0, 529, 539, (q_pE ext), (q_pR rx), L) I E 30 [some (.ref 492), some (.int x1), some (.int (q_min ((I 529) 5) (20 : Int32)))] [] [(492, r2.2.1), (497, r2.2.2), (529, (q_up (I 529) 5 (((I 529) 5) + (1 : Int32))))] []) (P := ¬ (q_bz r2.1) = 0) ok_X15_isStep rfl q_cn (fun h3 => ?_) (fun h3 => ?_)
  · have hf := q_ip h3 hf
    obtain ⟨j4, hj4, hf⟩ := q_bd hf
    refine q_blk 10 [j4] (c' := q_kc (t, r, 0, 529, 539, (q_pE ext), (q_pR rx), L) I E 42 [some (.ref 492), some (.int x1), some (.int (q_min ((I 529) 5) (20 : Int32)))] [.int x1, .ref 492] [(492, r2.2.1), (497, r2.2.2), (529, (q_up (I 529) 5 (((I 529) 5) + (1 : Int32)))), (534, (q_up (I 534) j4 ((q_up (I 529) 5 (((I 529) 5) + (1 : Int32))) 14)))] []) ok_X15_isStep rfl (q_cc hj4 q_cn) ?_
    obtain ⟨r5, hr5, hf⟩ := q_bd hf
    refine q_kV (M2 := m_X15_isRest) (As := [.int x1]) (b := 492) (v2 := some (.int (q_bz r5.1))) ok_X15_isStep ok_X15_isRest cv_X15_isRest (ct_X15_isRest_492_P (d := 398) (Nat.le_refl _) hr5) rfl rfl (Or.inl rfl) rfl rfl rfl rfl (Nat.le_trans (Nat.le_of_ble_eq_true rfl) hd) (Nat.le_of_ble_eq_true rfl) (Nat.le_of_ble_eq_true rfl) (Nat.le_of_ble_eq_true rfl) (fun x hx => absurd hx List.not_mem_nil) (q_nmL0 _) (q_nmS0 _) rfl (pos' := 43) (st' := [.int (q_bz r5.1)]) (lI' := [(492, r5.2.1), (497, r5.2.2.1), (529, r5.2.2.2.1), (534, (q_up (I 534) j4 ((q_up (I 529) 5 (((I 529) 5) + (1 : Int32))) 14))), (537, r5.2.2.2.2.1), (538, r5.2.2.2.2.2)]) (lE' := []) rfl rfl (q_mgw rfl rfl) rfl ?_
    refine q_blf 0 [] (a := q_kc (t, r, 0, 529, 539, (q_pE ext), (q_pR rx), L) I E 46 [some (.ref 492), some (.int x1), some (.int (q_min ((I 529) 5) (20 : Int32)))] [] [(492, r5.2.1), (497, r5.2.2.1), (529, r5.2.2.2.1), (534, (q_up (I 534) j4 ((q_up (I 529) 5 (((I 529) 5) + (1 : Int32))) 14))), (537, r5.2.2.2.2.1), (538, r5.2.2.2.2.2)] []) (b := q_kc (t, r, 0, 529, 539, (q_pE ext), (q_pR rx), L) I E 44 [some (.ref 492), some (.int x1), some (.int (q_min ((I 529) 5) (20 : Int32)))] [] [(492, r5.2.1), (497, r5.2.2.1), (529, r5.2.2.2.1), (534, (q_up (I 534) j4 ((q_up (I 529) 5 (((I 529) 5) + (1 : Int32))) 14))), (537, r5.2.2.2.2.1), (538, r5.2.2.2.2.2)] []) (P := ¬ (q_bz r5.1) = 0) ok_X15_isStep rfl q_cn (fun h6 => ?_) (fun h6 => ?_)
    · have hf := q_ip h6 hf
      obtain ⟨j7, hj7, hf⟩ := q_bd hf
      refine q_blk 10 [j7] (c' := q_kc (t, r, 0, 529, 539, (q_pE ext), (q_pR rx), L) I E 56 [some (.ref 492), some (.int x1), some (.int (q_min ((I 529) 5) (20 : Int32)))] [.int (15 : Int32), .ref 492] [(492, r5.2.1), (497, r5.2.2.1), (529, r5.2.2.2.1), (534, (q_up (I 534) j4 ((q_up (I 529) 5 (((I 529) 5) + (1 : Int32))) 14))), (535, (q_up (I 535) j7 (r5.2.2.2.1 14))), (537, r5.2.2.2.2.1), (538, r5.2.2.2.2.2)] []) ok_X15_isStep rfl (q_cc hj7 q_cn) ?_
      obtain ⟨r8, hr8, hf⟩ := q_bd hf
      refine q_kV (M2 := m_X15_eat) (As := [.int (15 : Int32)]) (b := 492) (v2 := some (.int (q_bz r8.1))) ok_X15_isStep ok_X15_eat cv_X15_eat (ct_X15_eat_492_P (d := 2) (Nat.le_refl _) hr8) rfl rfl (Or.inl rfl) rfl rfl rfl rfl (Nat.le_trans (Nat.le_of_ble_eq_true rfl) hd) (Nat.le_of_ble_eq_true rfl) (Nat.le_of_ble_eq_true rfl) (Nat.le_of_ble_eq_true rfl) (fun x hx => absurd hx List.not_mem_nil) (q_nmL0 _) (q_nmS0 _) rfl (pos' := 57) (st' := [.int (q_bz r8.1)]) (lI' := [(492, r8.2), (497, r5.2.2.1), (529, r5.2.2.2.1), (534, (q_up (I 534) j4 ((q_up (I 529) 5 (((I 529) 5) + (1 : Int32))) 14))), (535, (q_up (I 535) j7 (r5.2.2.2.1 14))), (537, r5.2.2.2.2.1), (538, r5.2.2.2.2.2)]) (lE' := []) rfl rfl (q_mgw rfl rfl) rfl ?_
      refine q_blf 0 [] (a := q_kc (t, r, 0, 529, 539, (q_pE ext), (q_pR rx), L) I E 63 [some (.ref 492), some (.int x1), some (.int (q_min ((I 529) 5) (20 : Int32)))] [] [(492, r8.2), (497, r5.2.2.1), (529, r5.2.2.2.1), (534, (q_up (I 534) j4 ((q_up (I 529) 5 (((I 529) 5) + (1 : Int32))) 14))), (535, (q_up (I 535) j7 (r5.2.2.2.1 14))), (537, r5.2.2.2.2.1), (538, r5.2.2.2.2.2)] []) (b := q_kc (t, r, 0, 529, 539, (q_pE ext), (q_pR rx), L) I E 58 [some (.ref 492), some (.int x1), some (.int (q_min ((I 529) 5) (20 : Int32)))] [] [(492, r8.2), (497, r5.2.2.1), (529, r5.2.2.2.1), (534, (q_up (I 534) j4 ((q_up (I 529) 5 (((I 529) 5) + (1 : Int32))) 14))), (535, (q_up (I 535) j7 (r5.2.2.2.1 14))), (537, r5.2.2.2.2.1), (538, r5.2.2.2.2.2)] []) (P := (q_bz r8.1) = 0) ok_X15_isStep rfl q_cn (fun h9 => ?_) (fun h9 => ?_)
      · have hf := q_ip h9 hf
        obtain ⟨j10, hj10, hf⟩ := q_bd hf
        refine q_blk 9 [j10] (c' := q_kc (t, r, 0, 529, 539, (q_pE ext), (q_pR rx), L) I E 72 [some (.ref 492), some (.int x1), some (.int (q_min ((I 529) 5) (20 : Int32)))] [.int (1 : Int32)] [(492, r8.2), (497, r5.2.2.1), (529, r5.2.2.2.1), (534, (q_up (I 534) j4 ((q_up (I 529) 5 (((I 529) 5) + (1 : Int32))) 14))), (535, (q_up (I 535) j7 (r5.2.2.2.1 14))), (536, (q_up (I 536) j10 (r5.2.2.2.1 14))), (537, r5.2.2.2.2.1), (538, r5.2.2.2.2.2)] []) ok_X15_isStep rfl (q_cc hj10 q_cn) ?_
        cases hf
        exact q_kri ok_X15_isStep rfl rfl rfl (Nat.le_of_ble_eq_true rfl) (Nat.le_of_ble_eq_true rfl) ⟨rfl, q_hpe (q_pdw [492, 497, 529, 534, 535, 536, 537, 538] rfl rfl) (q_pdw [] rfl rfl)⟩
      · have hf := q_in h9 hf
        refine q_blk 1 [] (c' := q_kc (t, r, 0, 529, 539, (q_pE ext), (q_pR rx), L) I E 59 [some (.ref 492), some (.int x1), some (.int (q_min ((I 529) 5) (20 : Int32)))] [.ref 492] [(492, r8.2), (497, r5.2.2.1), (529, r5.2.2.2.1), (534, (q_up (I 534) j4 ((q_up (I 529) 5 (((I 529) 5) + (1 : Int32))) 14))), (535, (q_up (I 535) j7 (r5.2.2.2.1 14))), (537, r5.2.2.2.2.1), (538, r5.2.2.2.2.2)] []) ok_X15_isStep rfl q_cn ?_
        obtain ⟨r11, hr11, hf⟩ := q_bd hf
        refine q_kV (M2 := m_X15_isTest) (As := []) (b := 492) (v2 := some (.int (q_bz r11.1))) ok_X15_isStep ok_X15_isTest cv_X15_isTest (ct_X15_isTest_492_P (dR := 390) (d := 400) (r_isSingle := k_isSingle 12) (r_isTest := k_isTest 12) (r_isValue := k_isValue 12) (r_isSum := k_isSum 12) (Nat.le_of_ble_eq_true rfl) (kq_isSingle 12) (kq_isTest 12) (kq_isValue 12) (kq_isSum 12) hr11) rfl rfl (Or.inl rfl) rfl rfl rfl rfl (Nat.le_trans (Nat.le_of_ble_eq_true rfl) hd) (Nat.le_of_ble_eq_true rfl) (Nat.le_of_ble_eq_true rfl) (Nat.le_of_ble_eq_true rfl) (fun x hx => absurd hx List.not_mem_nil) (q_nmL0 _) (q_nmS0 _) rfl (pos' := 60) (st' := [.int (q_bz r11.1)]) (lI' := [(492, r11.2.1), (497, r11.2.2.1), (529, r11.2.2.2.1), (534, (q_up (I 534) j4 ((q_up (I 529) 5 (((I 529) 5) + (1 : Int32))) 14))), (535, (q_up (I 535) j7 (r5.2.2.2.1 14))), (537, r11.2.2.2.2.1), (538, r11.2.2.2.2.2)]) (lE' := []) rfl rfl (q_mgw rfl rfl) rfl ?_
        refine q_blf 0 [] (a := q_kc (t, r, 0, 529, 539, (q_pE ext), (q_pR rx), L) I E 63 [some (.ref 492), some (.int x1), some (.int (q_min ((I 529) 5) (20 : Int32)))] [] [(492, r11.2.1), (497, r11.2.2.1), (529, r11.2.2.2.1), (534, (q_up (I 534) j4 ((q_up (I 529) 5 (((I 529) 5) + (1 : Int32))) 14))), (535, (q_up (I 535) j7 (r5.2.2.2.1 14))), (537, r11.2.2.2.2.1), (538, r11.2.2.2.2.2)] []) (b := q_kc (t, r, 0, 529, 539, (q_pE ext), (q_pR rx), L) I E 61 [some (.ref 492), some (.int x1), some (.int (q_min ((I 529) 5) (20 : Int32)))] [] [(492, r11.2.1), (497, r11.2.2.1), (529, r11.2.2.2.1), (534, (q_up (I 534) j4 ((q_up (I 529) 5 (((I 529) 5) + (1 : Int32))) 14))), (535, (q_up (I 535) j7 (r5.2.2.2.1 14))), (537, r11.2.2.2.2.1), (538, r11.2.2.2.2.2)] []) (P := ¬ (q_bz r11.1) = 0) ok_X15_isStep rfl q_cn (fun h12 => ?_) (fun h12 => ?_)
        · have hf := q_ip h12 hf
          obtain ⟨j13, hj13, hf⟩ := q_bd hf
          refine q_blk 9 [j13] (c' := q_kc (t, r, 0, 529, 539, (q_pE ext), (q_pR rx), L) I E 72 [some (.ref 492), some (.int x1), some (.int (q_min ((I 529) 5) (20 : Int32)))] [.int (1 : Int32)] [(492, r11.2.1), (497, r11.2.2.1), (529, r11.2.2.2.1), (534, (q_up (I 534) j4 ((q_up (I 529) 5 (((I 529) 5) + (1 : Int32))) 14))), (535, (q_up (I 535) j7 (r5.2.2.2.1 14))), (536, (q_up (I 536) j13 (r11.2.2.2.1 14))), (537, r11.2.2.2.2.1), (538, r11.2.2.2.2.2)] []) ok_X15_isStep rfl (q_cc hj13 q_cn) ?_
          cases hf
          exact q_kri ok_X15_isStep rfl rfl rfl (Nat.le_of_ble_eq_true rfl) (Nat.le_of_ble_eq_true rfl) ⟨rfl, q_hpe (q_pdw [492, 497, 529, 534, 535, 536, 537, 538] rfl rfl) (q_pdw [] rfl rfl)⟩
        · have hf := q_in h12 hf
          refine q_blk 1 [] (c' := q_kc (t, r, 0, 529, 539, (q_pE ext), (q_pR rx), L) I E 62 [some (.ref 492), some (.int x1), some (.int (q_min ((I 529) 5) (20 : Int32)))] [.int (0 : Int32)] [(492, r11.2.1), (497, r11.2.2.1), (529, r11.2.2.2.1), (534, (q_up (I 534) j4 ((q_up (I 529) 5 (((I 529) 5) + (1 : Int32))) 14))), (535, (q_up (I 535) j7 (r5.2.2.2.1 14))), (537, r11.2.2.2.2.1), (538, r11.2.2.2.2.2)] []) ok_X15_isStep rfl q_cn ?_
          cases hf
          exact q_kri ok_X15_isStep rfl rfl rfl (Nat.le_of_ble_eq_true rfl) (Nat.le_of_ble_eq_true rfl) ⟨rfl, q_hpe (q_pdw [492, 497, 529, 534, 535, 536, 537, 538] rfl rfl) (q_pdw [] rfl rfl)⟩
    · have hf := q_in h6 hf
      refine q_blk 1 [] (c' := q_kc (t, r, 0, 529, 539, (q_pE ext), (q_pR rx), L) I E 45 [some (.ref 492), some (.int x1), some (.int (q_min ((I 529) 5) (20 : Int32)))] [.int (0 : Int32)] [(492, r5.2.1), (497, r5.2.2.1), (529, r5.2.2.2.1), (534, (q_up (I 534) j4 ((q_up (I 529) 5 (((I 529) 5) + (1 : Int32))) 14))), (537, r5.2.2.2.2.1), (538, r5.2.2.2.2.2)] []) ok_X15_isStep rfl q_cn ?_
      cases hf
      exact q_kri ok_X15_isStep rfl rfl rfl (Nat.le_of_ble_eq_true rfl) (Nat.le_of_ble_eq_true rfl) ⟨rfl, q_hpe (q_pdw [492, 497, 529, 534, 535, 536, 537, 538] rfl rfl) (q_pdw [] rfl rfl)⟩
  · have hf := q_in h3 hf
    refine q_blk 1 [] (c' := q_kc (t, r, 0, 529, 539, (q_pE ext), (q_pR rx), L) I E 31 [some (.ref 492), some (.int x1), some (.int (q_min ((I 529) 5) (20 : Int32)))] [.int (0 : Int32)] [(492, r2.2.1), (497, r2.2.2), (529, (q_up (I 529) 5 (((I 529) 5) + (1 : Int32))))] []) ok_X15_isStep rfl q_cn ?_
    cases hf
    exact q_kri ok_X15_isStep rfl rfl rfl (Nat.le_of_ble_eq_true rfl) (Nat.le_of_ble_eq_true rfl) ⟨rfl, q_hpe (q_pdw [492, 497, 529, 534, 535, 536, 537, 538] rfl rfl) (q_pdw [] rfl rfl)⟩
set_option maxHeartbeats 4000000 in
theorem ct_X15_isLine_492_P {g : q_G} {t : Nat} {r : Nat} {ext : Nat → q_Sh} {rx : Nat → Nat → Option Nat} {L : Nat → Nat → Int64} {d : Nat} (hd : 402 ≤ d)  {I : Nat → Nat → Int32} {E : Nat → Nat → Option Nat} {r0 : Bool × (Nat → Int32) × (Nat → Int32) × (Nat → Int32) × (Nat → Int32) × (Nat → Int32) × (Nat → Int32) × (Nat → Int32) × (Nat → Int32)} (hf : f_X15_isLine (I 492) (I 493) (I 494) (I 495) (I 496) (I 497) (I 529) (I 534) (I 535) (I 536) (I 537) (I 538) = some r0) : q_Ct g m_X15_isLine d 0 0 [] [.ref 492] (q_hp (t, r, 0, 529, 539, (q_pE ext), (q_pR rx), L) I E) (fun o h' => o = .inl (some (.int (q_bz r0.1))) ∧ h' = q_hp (t, r, 0, 529, 539, (q_pE ext), (q_pR rx), L) (q_ws I [(492, r0.2.1), (497, r0.2.2.1), (529, r0.2.2.2.1), (534, r0.2.2.2.2.1), (535, r0.2.2.2.2.2.1), (536, r0.2.2.2.2.2.2.1), (537, r0.2.2.2.2.2.2.2.1), (538, r0.2.2.2.2.2.2.2.2)]) (q_ws E [])) := by
  rw [f_X15_isLine] at hf
  refine q_Ct_of ok_X15_isLine (Nat.le_of_ble_eq_true rfl) ?_ _ rfl rfl
  change q_J g m_X15_isLine d 0 0 _ [] _ 0 0 (q_kc (t, r, 0, 529, 539, (q_pE ext), (q_pR rx), L) I E 0 [some (.ref 492), none] [] [] [])
  obtain ⟨j1, hj1, hf⟩ := q_bd hf
  refine q_blf 8 [j1] (a := q_kc (t, r, 0, 529, 539, (q_pE ext), (q_pR rx), L) I E 21 [some (.ref 492), some (.int ((I 494) j1))] [] [] []) (b := q_kc (t, r, 0, 529, 539, (q_pE ext), (q_pR rx), L) I E 9 [some (.ref 492), some (.int ((I 494) j1))] [] [] []) (P := ((I 494) j1) = (4 : Int32)) ok_X15_isLine rfl (q_cc hj1 q_cn) (fun h2 => ?_) (fun h2 => ?_)
  · have hf := q_ip h2 hf
    refine q_blk 2 [] (c' := q_kc (t, r, 0, 529, 539, (q_pE ext), (q_pR rx), L) I E 23 [some (.ref 492), some (.int ((I 494) j1))] [.int ((I 494) j1), .ref 492] [] []) ok_X15_isLine rfl q_cn ?_
    obtain ⟨r3, hr3, hf⟩ := q_bd hf
    refine q_kV (M2 := m_X15_isStep) (As := [.int ((I 494) j1)]) (b := 492) (v2 := some (.int (q_bz r3.1))) ok_X15_isLine ok_X15_isStep cv_X15_isStep (ct_X15_isStep_492_P (d := 401) (Nat.le_refl _) hr3) rfl rfl (Or.inl rfl) rfl rfl rfl rfl (Nat.le_trans (Nat.le_of_ble_eq_true rfl) hd) (Nat.le_of_ble_eq_true rfl) (Nat.le_of_ble_eq_true rfl) (Nat.le_of_ble_eq_true rfl) (fun x hx => absurd hx List.not_mem_nil) (q_nmL0 _) (q_nmS0 _) rfl (pos' := 24) (st' := [.int (q_bz r3.1)]) (lI' := [(492, r3.2.1), (497, r3.2.2.1), (529, r3.2.2.2.1), (534, r3.2.2.2.2.1), (535, r3.2.2.2.2.2.1), (536, r3.2.2.2.2.2.2.1), (537, r3.2.2.2.2.2.2.2.1), (538, r3.2.2.2.2.2.2.2.2)]) (lE' := []) rfl rfl (q_mgw rfl rfl) rfl ?_
    cases hf
    exact q_kri ok_X15_isLine rfl rfl (q_bz_nr _) (Nat.le_of_ble_eq_true rfl) (Nat.le_of_ble_eq_true rfl) ⟨rfl, q_hpe (q_pdw [492, 497, 529, 534, 535, 536, 537, 538] rfl rfl) (q_pdw [] rfl rfl)⟩
  · have hf := q_in h2 hf
    refine q_blf 2 [] (a := q_kc (t, r, 0, 529, 539, (q_pE ext), (q_pR rx), L) I E 21 [some (.ref 492), some (.int ((I 494) j1))] [] [] []) (b := q_kc (t, r, 0, 529, 539, (q_pE ext), (q_pR rx), L) I E 12 [some (.ref 492), some (.int ((I 494) j1))] [] [] []) (P := ((I 494) j1) = (7 : Int32)) ok_X15_isLine rfl q_cn (fun h4 => ?_) (fun h4 => ?_)
    · have hf := q_ip h4 hf
      refine q_blk 2 [] (c' := q_kc (t, r, 0, 529, 539, (q_pE ext), (q_pR rx), L) I E 23 [some (.ref 492), some (.int ((I 494) j1))] [.int ((I 494) j1), .ref 492] [] []) ok_X15_isLine rfl q_cn ?_
      obtain ⟨r5, hr5, hf⟩ := q_bd hf
      refine q_kV (M2 := m_X15_isStep) (As := [.int ((I 494) j1)]) (b := 492) (v2 := some (.int (q_bz r5.1))) ok_X15_isLine ok_X15_isStep cv_X15_isStep (ct_X15_isStep_492_P (d := 401) (Nat.le_refl _) hr5) rfl rfl (Or.inl rfl) rfl rfl rfl rfl (Nat.le_trans (Nat.le_of_ble_eq_true rfl) hd) (Nat.le_of_ble_eq_true rfl) (Nat.le_of_ble_eq_true rfl) (Nat.le_of_ble_eq_true rfl) (fun x hx => absurd hx List.not_mem_nil) (q_nmL0 _) (q_nmS0 _) rfl (pos' := 24) (st' := [.int (q_bz r5.1)]) (lI' := [(492, r5.2.1), (497, r5.2.2.1), (529, r5.2.2.2.1), (534, r5.2.2.2.2.1), (535, r5.2.2.2.2.2.1), (536, r5.2.2.2.2.2.2.1), (537, r5.2.2.2.2.2.2.2.1), (538, r5.2.2.2.2.2.2.2.2)]) (lE' := []) rfl rfl (q_mgw rfl rfl) rfl ?_
      cases hf
      exact q_kri ok_X15_isLine rfl rfl (q_bz_nr _) (Nat.le_of_ble_eq_true rfl) (Nat.le_of_ble_eq_true rfl) ⟨rfl, q_hpe (q_pdw [492, 497, 529, 534, 535, 536, 537, 538] rfl rfl) (q_pdw [] rfl rfl)⟩
    · have hf := q_in h4 hf
      refine q_blf 2 [] (a := q_kc (t, r, 0, 529, 539, (q_pE ext), (q_pR rx), L) I E 21 [some (.ref 492), some (.int ((I 494) j1))] [] [] []) (b := q_kc (t, r, 0, 529, 539, (q_pE ext), (q_pR rx), L) I E 15 [some (.ref 492), some (.int ((I 494) j1))] [] [] []) (P := ((I 494) j1) = (10 : Int32)) ok_X15_isLine rfl q_cn (fun h6 => ?_) (fun h6 => ?_)
      · have hf := q_ip h6 hf
        refine q_blk 2 [] (c' := q_kc (t, r, 0, 529, 539, (q_pE ext), (q_pR rx), L) I E 23 [some (.ref 492), some (.int ((I 494) j1))] [.int ((I 494) j1), .ref 492] [] []) ok_X15_isLine rfl q_cn ?_
        obtain ⟨r7, hr7, hf⟩ := q_bd hf
        refine q_kV (M2 := m_X15_isStep) (As := [.int ((I 494) j1)]) (b := 492) (v2 := some (.int (q_bz r7.1))) ok_X15_isLine ok_X15_isStep cv_X15_isStep (ct_X15_isStep_492_P (d := 401) (Nat.le_refl _) hr7) rfl rfl (Or.inl rfl) rfl rfl rfl rfl (Nat.le_trans (Nat.le_of_ble_eq_true rfl) hd) (Nat.le_of_ble_eq_true rfl) (Nat.le_of_ble_eq_true rfl) (Nat.le_of_ble_eq_true rfl) (fun x hx => absurd hx List.not_mem_nil) (q_nmL0 _) (q_nmS0 _) rfl (pos' := 24) (st' := [.int (q_bz r7.1)]) (lI' := [(492, r7.2.1), (497, r7.2.2.1), (529, r7.2.2.2.1), (534, r7.2.2.2.2.1), (535, r7.2.2.2.2.2.1), (536, r7.2.2.2.2.2.2.1), (537, r7.2.2.2.2.2.2.2.1), (538, r7.2.2.2.2.2.2.2.2)]) (lE' := []) rfl rfl (q_mgw rfl rfl) rfl ?_
        cases hf
        exact q_kri ok_X15_isLine rfl rfl (q_bz_nr _) (Nat.le_of_ble_eq_true rfl) (Nat.le_of_ble_eq_true rfl) ⟨rfl, q_hpe (q_pdw [492, 497, 529, 534, 535, 536, 537, 538] rfl rfl) (q_pdw [] rfl rfl)⟩
      · have hf := q_in h6 hf
        refine q_blf 2 [] (a := q_kc (t, r, 0, 529, 539, (q_pE ext), (q_pR rx), L) I E 21 [some (.ref 492), some (.int ((I 494) j1))] [] [] []) (b := q_kc (t, r, 0, 529, 539, (q_pE ext), (q_pR rx), L) I E 18 [some (.ref 492), some (.int ((I 494) j1))] [] [] []) (P := ((I 494) j1) = (11 : Int32)) ok_X15_isLine rfl q_cn (fun h8 => ?_) (fun h8 => ?_)
        · have hf := q_ip h8 hf
          refine q_blk 2 [] (c' := q_kc (t, r, 0, 529, 539, (q_pE ext), (q_pR rx), L) I E 23 [some (.ref 492), some (.int ((I 494) j1))] [.int ((I 494) j1), .ref 492] [] []) ok_X15_isLine rfl q_cn ?_
          obtain ⟨r9, hr9, hf⟩ := q_bd hf
          refine q_kV (M2 := m_X15_isStep) (As := [.int ((I 494) j1)]) (b := 492) (v2 := some (.int (q_bz r9.1))) ok_X15_isLine ok_X15_isStep cv_X15_isStep (ct_X15_isStep_492_P (d := 401) (Nat.le_refl _) hr9) rfl rfl (Or.inl rfl) rfl rfl rfl rfl (Nat.le_trans (Nat.le_of_ble_eq_true rfl) hd) (Nat.le_of_ble_eq_true rfl) (Nat.le_of_ble_eq_true rfl) (Nat.le_of_ble_eq_true rfl) (fun x hx => absurd hx List.not_mem_nil) (q_nmL0 _) (q_nmS0 _) rfl (pos' := 24) (st' := [.int (q_bz r9.1)]) (lI' := [(492, r9.2.1), (497, r9.2.2.1), (529, r9.2.2.2.1), (534, r9.2.2.2.2.1), (535, r9.2.2.2.2.2.1), (536, r9.2.2.2.2.2.2.1), (537, r9.2.2.2.2.2.2.2.1), (538, r9.2.2.2.2.2.2.2.2)]) (lE' := []) rfl rfl (q_mgw rfl rfl) rfl ?_
          cases hf
          exact q_kri ok_X15_isLine rfl rfl (q_bz_nr _) (Nat.le_of_ble_eq_true rfl) (Nat.le_of_ble_eq_true rfl) ⟨rfl, q_hpe (q_pdw [492, 497, 529, 534, 535, 536, 537, 538] rfl rfl) (q_pdw [] rfl rfl)⟩
        · have hf := q_in h8 hf
          refine q_blf 2 [] (a := q_kc (t, r, 0, 529, 539, (q_pE ext), (q_pR rx), L) I E 25 [some (.ref 492), some (.int ((I 494) j1))] [] [] []) (b := q_kc (t, r, 0, 529, 539, (q_pE ext), (q_pR rx), L) I E 21 [some (.ref 492), some (.int ((I 494) j1))] [] [] []) (P := ¬ ((I 494) j1) = (14 : Int32)) ok_X15_isLine rfl q_cn (fun h10 => ?_) (fun h10 => ?_)
          · have hf := q_ip h10 hf
            refine q_blf 2 [] (a := q_kc (t, r, 0, 529, 539, (q_pE ext), (q_pR rx), L) I E 30 [some (.ref 492), some (.int ((I 494) j1))] [] [] []) (b := q_kc (t, r, 0, 529, 539, (q_pE ext), (q_pR rx), L) I E 28 [some (.ref 492), some (.int ((I 494) j1))] [] [] []) (P := ((I 494) j1) ≤ (3 : Int32)) ok_X15_isLine rfl q_cn (fun h11 => ?_) (fun h11 => ?_)
            · have hf := q_ip h11 hf
              refine q_blf 8 [] (a := q_kc (t, r, 0, 529, 539, (q_pE ext), (q_pR rx), L) I E 44 [some (.ref 492), some (.int ((I 494) j1))] [] [(492, (q_up (I 492) 9 (((I 492) 9) + (1 : Int32))))] []) (b := q_kc (t, r, 0, 529, 539, (q_pE ext), (q_pR rx), L) I E 39 [some (.ref 492), some (.int ((I 494) j1))] [] [(492, (q_up (I 492) 9 (((I 492) 9) + (1 : Int32))))] []) (P := ¬ ((I 494) j1) = (3 : Int32)) ok_X15_isLine rfl q_cn (fun h12 => ?_) (fun h12 => ?_)
              · have hf := q_ip h12 hf
                refine q_blf 3 [] (a := q_kc (t, r, 0, 529, 539, (q_pE ext), (q_pR rx), L) I E 50 [some (.ref 492), some (.int ((I 494) j1))] [.int (41 : Int32), .ref 492] [(492, (q_up (I 492) 9 (((I 492) 9) + (1 : Int32))))] []) (b := q_kc (t, r, 0, 529, 539, (q_pE ext), (q_pR rx), L) I E 48 [some (.ref 492), some (.int ((I 494) j1))] [.int (41 : Int32), .ref 492] [(492, (q_up (I 492) 9 (((I 492) 9) + (1 : Int32))))] []) (P := ¬ ((I 494) j1) = 0) ok_X15_isLine rfl q_cn (fun h13 => ?_) (fun h13 => ?_)
                · have hf := q_ip h13 hf
                  refine q_blf 2 [] (a := q_kc (t, r, 0, 529, 539, (q_pE ext), (q_pR rx), L) I E 55 [some (.ref 492), some (.int ((I 494) j1))] [.int (41 : Int32), .ref 492] [(492, (q_up (I 492) 9 (((I 492) 9) + (1 : Int32))))] []) (b := q_kc (t, r, 0, 529, 539, (q_pE ext), (q_pR rx), L) I E 53 [some (.ref 492), some (.int ((I 494) j1))] [.int (41 : Int32), .ref 492] [(492, (q_up (I 492) 9 (((I 492) 9) + (1 : Int32))))] []) (P := ¬ ((I 494) j1) = (1 : Int32)) ok_X15_isLine rfl q_cn (fun h14 => ?_) (fun h14 => ?_)
                  · have hf := q_ip h14 hf
                    refine q_blk 1 [] (c' := q_kc (t, r, 0, 529, 539, (q_pE ext), (q_pR rx), L) I E 56 [some (.ref 492), some (.int ((I 494) j1))] [.int (8 : Int32), .int (41 : Int32), .ref 492] [(492, (q_up (I 492) 9 (((I 492) 9) + (1 : Int32))))] []) ok_X15_isLine rfl q_cn ?_
                    obtain ⟨r15, hr15, hf⟩ := q_bd hf
                    refine q_kV (M2 := m_X15_eatAs) (As := [.int (41 : Int32), .int (8 : Int32)]) (b := 492) (v2 := some (.int (q_bz r15.1))) ok_X15_isLine ok_X15_eatAs cv_X15_eatAs (ct_X15_eatAs_492_P (d := 3) (Nat.le_refl _) hr15) rfl rfl (Or.inl rfl) rfl rfl rfl rfl (Nat.le_trans (Nat.le_of_ble_eq_true rfl) hd) (Nat.le_of_ble_eq_true rfl) (Nat.le_of_ble_eq_true rfl) (Nat.le_of_ble_eq_true rfl) (fun x hx => absurd hx List.not_mem_nil) (q_nmL0 _) (q_nmS0 _) rfl (pos' := 57) (st' := [.int (q_bz r15.1)]) (lI' := [(492, r15.2.1), (497, r15.2.2)]) (lE' := []) rfl rfl (q_mgw rfl rfl) rfl ?_
                    cases hf
                    exact q_kri ok_X15_isLine rfl rfl (q_bz_nr _) (Nat.le_of_ble_eq_true rfl) (Nat.le_of_ble_eq_true rfl) ⟨rfl, q_hpe (q_pdw [492, 497, 529, 534, 535, 536, 537, 538] rfl rfl) (q_pdw [] rfl rfl)⟩
                  · have hf := q_in h14 hf
                    refine q_blk 2 [] (c' := q_kc (t, r, 0, 529, 539, (q_pE ext), (q_pR rx), L) I E 56 [some (.ref 492), some (.int ((I 494) j1))] [.int (7 : Int32), .int (41 : Int32), .ref 492] [(492, (q_up (I 492) 9 (((I 492) 9) + (1 : Int32))))] []) ok_X15_isLine rfl q_cn ?_
                    obtain ⟨r16, hr16, hf⟩ := q_bd hf
                    refine q_kV (M2 := m_X15_eatAs) (As := [.int (41 : Int32), .int (7 : Int32)]) (b := 492) (v2 := some (.int (q_bz r16.1))) ok_X15_isLine ok_X15_eatAs cv_X15_eatAs (ct_X15_eatAs_492_P (d := 3) (Nat.le_refl _) hr16) rfl rfl (Or.inl rfl) rfl rfl rfl rfl (Nat.le_trans (Nat.le_of_ble_eq_true rfl) hd) (Nat.le_of_ble_eq_true rfl) (Nat.le_of_ble_eq_true rfl) (Nat.le_of_ble_eq_true rfl) (fun x hx => absurd hx List.not_mem_nil) (q_nmL0 _) (q_nmS0 _) rfl (pos' := 57) (st' := [.int (q_bz r16.1)]) (lI' := [(492, r16.2.1), (497, r16.2.2)]) (lE' := []) rfl rfl (q_mgw rfl rfl) rfl ?_
                    cases hf
                    exact q_kri ok_X15_isLine rfl rfl (q_bz_nr _) (Nat.le_of_ble_eq_true rfl) (Nat.le_of_ble_eq_true rfl) ⟨rfl, q_hpe (q_pdw [492, 497, 529, 534, 535, 536, 537, 538] rfl rfl) (q_pdw [] rfl rfl)⟩
                · have hf := q_in h13 hf
                  refine q_blk 2 [] (c' := q_kc (t, r, 0, 529, 539, (q_pE ext), (q_pR rx), L) I E 56 [some (.ref 492), some (.int ((I 494) j1))] [.int (6 : Int32), .int (41 : Int32), .ref 492] [(492, (q_up (I 492) 9 (((I 492) 9) + (1 : Int32))))] []) ok_X15_isLine rfl q_cn ?_
                  obtain ⟨r17, hr17, hf⟩ := q_bd hf
                  refine q_kV (M2 := m_X15_eatAs) (As := [.int (41 : Int32), .int (6 : Int32)]) (b := 492) (v2 := some (.int (q_bz r17.1))) ok_X15_isLine ok_X15_eatAs cv_X15_eatAs (ct_X15_eatAs_492_P (d := 3) (Nat.le_refl _) hr17) rfl rfl (Or.inl rfl) rfl rfl rfl rfl (Nat.le_trans (Nat.le_of_ble_eq_true rfl) hd) (Nat.le_of_ble_eq_true rfl) (Nat.le_of_ble_eq_true rfl) (Nat.le_of_ble_eq_true rfl) (fun x hx => absurd hx List.not_mem_nil) (q_nmL0 _) (q_nmS0 _) rfl (pos' := 57) (st' := [.int (q_bz r17.1)]) (lI' := [(492, r17.2.1), (497, r17.2.2)]) (lE' := []) rfl rfl (q_mgw rfl rfl) rfl ?_
                  cases hf
                  exact q_kri ok_X15_isLine rfl rfl (q_bz_nr _) (Nat.le_of_ble_eq_true rfl) (Nat.le_of_ble_eq_true rfl) ⟨rfl, q_hpe (q_pdw [492, 497, 529, 534, 535, 536, 537, 538] rfl rfl) (q_pdw [] rfl rfl)⟩
              · have hf := q_in h12 hf
                refine q_blk 3 [] (c' := q_kc (t, r, 0, 529, 539, (q_pE ext), (q_pR rx), L) I E 42 [some (.ref 492), some (.int ((I 494) j1))] [.int (1 : Int32), .int (40 : Int32), .ref 492] [(492, (q_up (I 492) 9 (((I 492) 9) + (1 : Int32))))] []) ok_X15_isLine rfl q_cn ?_
                obtain ⟨r18, hr18, hf⟩ := q_bd hf
                refine q_kV (M2 := m_X15_eatAs) (As := [.int (40 : Int32), .int (1 : Int32)]) (b := 492) (v2 := some (.int (q_bz r18.1))) ok_X15_isLine ok_X15_eatAs cv_X15_eatAs (ct_X15_eatAs_492_P (d := 3) (Nat.le_refl _) hr18) rfl rfl (Or.inl rfl) rfl rfl rfl rfl (Nat.le_trans (Nat.le_of_ble_eq_true rfl) hd) (Nat.le_of_ble_eq_true rfl) (Nat.le_of_ble_eq_true rfl) (Nat.le_of_ble_eq_true rfl) (fun x hx => absurd hx List.not_mem_nil) (q_nmL0 _) (q_nmS0 _) rfl (pos' := 43) (st' := [.int (q_bz r18.1)]) (lI' := [(492, r18.2.1), (497, r18.2.2)]) (lE' := []) rfl rfl (q_mgw rfl rfl) rfl ?_
                refine q_blk 1 [] (c' := q_kc (t, r, 0, 529, 539, (q_pE ext), (q_pR rx), L) I E 57 [some (.ref 492), some (.int ((I 494) j1))] [.int (q_bz r18.1)] [(492, r18.2.1), (497, r18.2.2)] []) ok_X15_isLine rfl q_cn ?_
                cases hf
                exact q_kri ok_X15_isLine rfl rfl (q_bz_nr _) (Nat.le_of_ble_eq_true rfl) (Nat.le_of_ble_eq_true rfl) ⟨rfl, q_hpe (q_pdw [492, 497, 529, 534, 535, 536, 537, 538] rfl rfl) (q_pdw [] rfl rfl)⟩
            · have hf := q_in h11 hf
              refine q_blk 1 [] (c' := q_kc (t, r, 0, 529, 539, (q_pE ext), (q_pR rx), L) I E 29 [some (.ref 492), some (.int ((I 494) j1))] [.int (0 : Int32)] [] []) ok_X15_isLine rfl q_cn ?_
              cases hf
              exact q_kri ok_X15_isLine rfl rfl rfl (Nat.le_of_ble_eq_true rfl) (Nat.le_of_ble_eq_true rfl) ⟨rfl, q_hpe (q_pdw [492, 497, 529, 534, 535, 536, 537, 538] rfl rfl) (q_pdw [] rfl rfl)⟩
          · have hf := q_in h10 hf
            refine q_blk 2 [] (c' := q_kc (t, r, 0, 529, 539, (q_pE ext), (q_pR rx), L) I E 23 [some (.ref 492), some (.int ((I 494) j1))] [.int ((I 494) j1), .ref 492] [] []) ok_X15_isLine rfl q_cn ?_
            obtain ⟨r19, hr19, hf⟩ := q_bd hf
            refine q_kV (M2 := m_X15_isStep) (As := [.int ((I 494) j1)]) (b := 492) (v2 := some (.int (q_bz r19.1))) ok_X15_isLine ok_X15_isStep cv_X15_isStep (ct_X15_isStep_492_P (d := 401) (Nat.le_refl _) hr19) rfl rfl (Or.inl rfl) rfl rfl rfl rfl (Nat.le_trans (Nat.le_of_ble_eq_true rfl) hd) (Nat.le_of_ble_eq_true rfl) (Nat.le_of_ble_eq_true rfl) (Nat.le_of_ble_eq_true rfl) (fun x hx => absurd hx List.not_mem_nil) (q_nmL0 _) (q_nmS0 _) rfl (pos' := 24) (st' := [.int (q_bz r19.1)]) (lI' := [(492, r19.2.1), (497, r19.2.2.1), (529, r19.2.2.2.1), (534, r19.2.2.2.2.1), (535, r19.2.2.2.2.2.1), (536, r19.2.2.2.2.2.2.1), (537, r19.2.2.2.2.2.2.2.1), (538, r19.2.2.2.2.2.2.2.2)]) (lE' := []) rfl rfl (q_mgw rfl rfl) rfl ?_
            cases hf
            exact q_kri ok_X15_isLine rfl rfl (q_bz_nr _) (Nat.le_of_ble_eq_true rfl) (Nat.le_of_ble_eq_true rfl) ⟨rfl, q_hpe (q_pdw [492, 497, 529, 534, 535, 536, 537, 538] rfl rfl) (q_pdw [] rfl rfl)⟩
set_option maxHeartbeats 4000000 in
theorem lp_X15_isBarn_L0_492_P {g : q_G} {d mc ms : Nat} {h0 : q_H} {Q : (Option Value ⊕ String) → q_H → Prop} {k n : Nat} {t : Nat} {r : Nat} {ext : Nat → q_Sh} {rx : Nat → Nat → Option Nat} {L : Nat → Nat → Int64} (hd : 403 ≤ d) (hk : k ≤ mc) (hn : n ≤ ms)  : ∀ (fu : Nat) {I : Nat → Nat → Int32} {E : Nat → Nat → Option Nat} {r0 : Nat × (Nat → Int32) × (Nat → Int32) × (Nat → Int32) × (Nat → Int32) × (Nat → Int32) × (Nat → Int32) × (Nat → Int32) × (Nat → Int32)} (hf : f_X15_isBarn_L0 (I 493) (I 494) (I 495) (I 496) fu (I 492) (I 497) (I 529) (I 534) (I 535) (I 536) (I 537) (I 538) = some r0) (hK0 : r0.1 = 0 → q_J g m_X15_isBarn d mc ms h0 [] Q k n (q_kc (t, r, 0, 529, 539, (q_pE ext), (q_pR rx), L) I E 13 [none] [] [(492, r0.2.1), (497, r0.2.2.1), (529, r0.2.2.2.1), (534, r0.2.2.2.2.1), (535, r0.2.2.2.2.2.1), (536, r0.2.2.2.2.2.2.1), (537, r0.2.2.2.2.2.2.2.1), (538, r0.2.2.2.2.2.2.2.2)] [])) (hK1 : r0.1 = 1 → q_J g m_X15_isBarn d mc ms h0 [] Q k n (q_kc (t, r, 0, 529, 539, (q_pE ext), (q_pR rx), L) I E 11 [none] [] [(492, r0.2.1), (497, r0.2.2.1), (529, r0.2.2.2.1), (534, r0.2.2.2.2.1), (535, r0.2.2.2.2.2.1), (536, r0.2.2.2.2.2.2.1), (537, r0.2.2.2.2.2.2.2.1), (538, r0.2.2.2.2.2.2.2.2)] [])), q_J g m_X15_isBarn d mc ms h0 [] Q k n (0, [some (.ref 492)], [], q_hp (t, r, 0, 529, 539, (q_pE ext), (q_pR rx), L) I E) := by
  intro fu
  induction fu with
  | zero =>
    intro I E r0 hf hK0 hK1
    rw [f_X15_isBarn_L0] at hf
    cases hf
  | succ fu ih =>
    intro I E r0 hf hK0 hK1
    rw [f_X15_isBarn_L0] at hf
    change q_J g m_X15_isBarn d mc ms h0 [] Q k n (q_kc (t, r, 0, 529, 539, (q_pE ext), (q_pR rx), L) I E 0 [some (.ref 492)] [] [] [])
    refine q_blk 2 [] (c' := q_kc (t, r, 0, 529, 539, (q_pE ext), (q_pR rx), L) I E 2 [some (.ref 492)] [.int (900 : Int32), .ref 492] [] []) ok_X15_isBarn rfl q_cn ?_
    obtain ⟨r1, hr1, hf⟩ := q_bd hf
    refine q_kV (M2 := m_X15_is) (As := [.int (900 : Int32)]) (b := 492) (v2 := some (.int (q_bz r1))) ok_X15_isBarn ok_X15_is cv_X15_is (ct_X15_is_492_P (d := 1) (Nat.le_refl _) hr1) rfl rfl (Or.inl rfl) rfl rfl rfl rfl (Nat.le_trans (Nat.le_of_ble_eq_true rfl) hd) hk hn (Nat.le_of_ble_eq_true rfl) (fun x hx => absurd hx List.not_mem_nil) (q_nmL0 _) (q_nmS0 _) rfl (pos' := 3) (st' := [.int (q_bz r1)]) (lI' := []) (lE' := []) rfl rfl rfl rfl ?_
    refine q_blf 0 [] (a := q_kc (t, r, 0, 529, 539, (q_pE ext), (q_pR rx), L) I E 13 [some (.ref 492)] [] [] []) (b := q_kc (t, r, 0, 529, 539, (q_pE ext), (q_pR rx), L) I E 4 [some (.ref 492)] [] [] []) (P := ¬ (q_bz r1) = 0) ok_X15_isBarn rfl q_cn (fun h2 => ?_) (fun h2 => ?_)
    · have hf := q_ip h2 hf
      refine q_less (ls' := [none]) (q_sb1 q_sb0) ?_
      cases hf
      exact q_Jpad (q_pdw [492, 497, 529, 534, 535, 536, 537, 538] rfl rfl) (q_pdw [] rfl rfl) (hK0 rfl)
    · have hf := q_in h2 hf
      refine q_blk 1 [] (c' := q_kc (t, r, 0, 529, 539, (q_pE ext), (q_pR rx), L) I E 5 [some (.ref 492)] [.ref 492] [] []) ok_X15_isBarn rfl q_cn ?_
      obtain ⟨r3, hr3, hf⟩ := q_bd hf
      refine q_kV (M2 := m_X15_isLine) (As := []) (b := 492) (v2 := some (.int (q_bz r3.1))) ok_X15_isBarn ok_X15_isLine cv_X15_isLine (ct_X15_isLine_492_P (d := 402) (Nat.le_refl _) hr3) rfl rfl (Or.inl rfl) rfl rfl rfl rfl (Nat.le_trans (Nat.le_of_ble_eq_true rfl) hd) hk hn (Nat.le_of_ble_eq_true rfl) (fun x hx => absurd hx List.not_mem_nil) (q_nmL0 _) (q_nmS0 _) rfl (pos' := 6) (st' := [.int (q_bz r3.1)]) (lI' := [(492, r3.2.1), (497, r3.2.2.1), (529, r3.2.2.2.1), (534, r3.2.2.2.2.1), (535, r3.2.2.2.2.2.1), (536, r3.2.2.2.2.2.2.1), (537, r3.2.2.2.2.2.2.2.1), (538, r3.2.2.2.2.2.2.2.2)]) (lE' := []) rfl rfl (q_mgw rfl rfl) rfl ?_
      refine q_blf 0 [] (a := q_kc (t, r, 0, 529, 539, (q_pE ext), (q_pR rx), L) I E 11 [some (.ref 492)] [] [(492, r3.2.1), (497, r3.2.2.1), (529, r3.2.2.2.1), (534, r3.2.2.2.2.1), (535, r3.2.2.2.2.2.1), (536, r3.2.2.2.2.2.2.1), (537, r3.2.2.2.2.2.2.2.1), (538, r3.2.2.2.2.2.2.2.2)] []) (b := q_kc (t, r, 0, 529, 539, (q_pE ext), (q_pR rx), L) I E 7 [some (.ref 492)] [] [(492, r3.2.1), (497, r3.2.2.1), (529, r3.2.2.2.1), (534, r3.2.2.2.2.1), (535, r3.2.2.2.2.2.1), (536, r3.2.2.2.2.2.2.1), (537, r3.2.2.2.2.2.2.2.1), (538, r3.2.2.2.2.2.2.2.2)] []) (P := (q_bz r3.1) = 0) ok_X15_isBarn rfl q_cn (fun h4 => ?_) (fun h4 => ?_)
      · have hf := q_ip h4 hf
        refine q_less (ls' := [none]) (q_sb1 q_sb0) ?_
        cases hf
        exact q_Jpad (q_pdw [492, 497, 529, 534, 535, 536, 537, 538] rfl rfl) (q_pdw [] rfl rfl) (hK1 rfl)
      · have hf := q_in h4 hf
        refine q_blk 2 [] (c' := q_kc (t, r, 0, 529, 539, (q_pE ext), (q_pR rx), L) I E 9 [some (.ref 492)] [.int (59 : Int32), .ref 492] [(492, r3.2.1), (497, r3.2.2.1), (529, r3.2.2.2.1), (534, r3.2.2.2.2.1), (535, r3.2.2.2.2.2.1), (536, r3.2.2.2.2.2.2.1), (537, r3.2.2.2.2.2.2.2.1), (538, r3.2.2.2.2.2.2.2.2)] []) ok_X15_isBarn rfl q_cn ?_
        obtain ⟨r5, hr5, hf⟩ := q_bd hf
        refine q_kV (M2 := m_X15_eatSign) (As := [.int (59 : Int32)]) (b := 492) (v2 := some (.int (q_bz r5.1))) ok_X15_isBarn ok_X15_eatSign cv_X15_eatSign (ct_X15_eatSign_492_P (d := 3) (Nat.le_refl _) hr5) rfl rfl (Or.inl rfl) rfl rfl rfl rfl (Nat.le_trans (Nat.le_of_ble_eq_true rfl) hd) hk hn (Nat.le_of_ble_eq_true rfl) (fun x hx => absurd hx List.not_mem_nil) (q_nmL0 _) (q_nmS0 _) rfl (pos' := 10) (st' := [.int (q_bz r5.1)]) (lI' := [(492, r5.2), (497, r3.2.2.1), (529, r3.2.2.2.1), (534, r3.2.2.2.2.1), (535, r3.2.2.2.2.2.1), (536, r3.2.2.2.2.2.2.1), (537, r3.2.2.2.2.2.2.2.1), (538, r3.2.2.2.2.2.2.2.2)]) (lE' := []) rfl rfl (q_mgw rfl rfl) rfl ?_
        refine q_blf 0 [] (a := q_kc (t, r, 0, 529, 539, (q_pE ext), (q_pR rx), L) I E 0 [some (.ref 492)] [] [(492, r5.2), (497, r3.2.2.1), (529, r3.2.2.2.1), (534, r3.2.2.2.2.1), (535, r3.2.2.2.2.2.1), (536, r3.2.2.2.2.2.2.1), (537, r3.2.2.2.2.2.2.2.1), (538, r3.2.2.2.2.2.2.2.2)] []) (b := q_kc (t, r, 0, 529, 539, (q_pE ext), (q_pR rx), L) I E 11 [some (.ref 492)] [] [(492, r5.2), (497, r3.2.2.1), (529, r3.2.2.2.1), (534, r3.2.2.2.2.1), (535, r3.2.2.2.2.2.1), (536, r3.2.2.2.2.2.2.1), (537, r3.2.2.2.2.2.2.2.1), (538, r3.2.2.2.2.2.2.2.2)] []) (P := ¬ (q_bz r5.1) = 0) ok_X15_isBarn rfl q_cn (fun h6 => ?_) (fun h6 => ?_)
        · have hf := q_ip h6 hf
          exact ih (I := q_ws I [(492, r5.2), (497, r3.2.2.1), (529, r3.2.2.2.1), (534, r3.2.2.2.2.1), (535, r3.2.2.2.2.2.1), (536, r3.2.2.2.2.2.2.1), (537, r3.2.2.2.2.2.2.2.1), (538, r3.2.2.2.2.2.2.2.2)]) (E := q_ws E []) hf (fun hz => q_Jmrg (q_mgw rfl rfl) (q_mgw rfl rfl) (hK0 hz)) (fun hz => q_Jmrg (q_mgw rfl rfl) (q_mgw rfl rfl) (hK1 hz))
        · have hf := q_in h6 hf
          refine q_less (ls' := [none]) (q_sb1 q_sb0) ?_
          cases hf
          exact q_Jpad (q_pdw [492, 497, 529, 534, 535, 536, 537, 538] rfl rfl) (q_pdw [] rfl rfl) (hK1 rfl)
set_option maxHeartbeats 4000000 in
theorem ct_X15_isBarn_492_P {g : q_G} {t : Nat} {r : Nat} {ext : Nat → q_Sh} {rx : Nat → Nat → Option Nat} {L : Nat → Nat → Int64} {d : Nat} (hd : 403 ≤ d)  {I : Nat → Nat → Int32} {E : Nat → Nat → Option Nat} {r0 : Bool × (Nat → Int32) × (Nat → Int32) × (Nat → Int32) × (Nat → Int32) × (Nat → Int32) × (Nat → Int32) × (Nat → Int32) × (Nat → Int32)} (hf : f_X15_isBarn (I 492) (I 493) (I 494) (I 495) (I 496) (I 497) (I 529) (I 534) (I 535) (I 536) (I 537) (I 538) = some r0) : q_Ct g m_X15_isBarn d 0 0 [] [.ref 492] (q_hp (t, r, 0, 529, 539, (q_pE ext), (q_pR rx), L) I E) (fun o h' => o = .inl (some (.int (q_bz r0.1))) ∧ h' = q_hp (t, r, 0, 529, 539, (q_pE ext), (q_pR rx), L) (q_ws I [(492, r0.2.1), (497, r0.2.2.1), (529, r0.2.2.2.1), (534, r0.2.2.2.2.1), (535, r0.2.2.2.2.2.1), (536, r0.2.2.2.2.2.2.1), (537, r0.2.2.2.2.2.2.2.1), (538, r0.2.2.2.2.2.2.2.2)]) (q_ws E [])) := by
  rw [f_X15_isBarn] at hf
  refine q_Ct_of ok_X15_isBarn (Nat.le_of_ble_eq_true rfl) ?_ _ rfl rfl
  change q_J g m_X15_isBarn d 0 0 _ [] _ 0 0 (q_kc (t, r, 0, 529, 539, (q_pE ext), (q_pR rx), L) I E 0 [some (.ref 492)] [] [] [])
  obtain ⟨r7, hr7, hf⟩ := q_bd hf
  refine lp_X15_isBarn_L0_492_P (I := q_ws I []) (E := q_ws E []) hd (Nat.le_of_ble_eq_true rfl) (Nat.le_of_ble_eq_true rfl) 4096 hr7 ?_ ?_
  · intro hz0
    have hf := q_ip hz0 hf
    refine q_Jmrg (lI' := [(492, r7.2.1), (497, r7.2.2.1), (529, r7.2.2.2.1), (534, r7.2.2.2.2.1), (535, r7.2.2.2.2.2.1), (536, r7.2.2.2.2.2.2.1), (537, r7.2.2.2.2.2.2.2.1), (538, r7.2.2.2.2.2.2.2.2)]) (lE' := []) (q_mgw rfl rfl) (q_mgw rfl rfl) ?_
    refine q_blk 1 [] (c' := q_kc (t, r, 0, 529, 539, (q_pE ext), (q_pR rx), L) I E 14 [none] [.int (1 : Int32)] [(492, r7.2.1), (497, r7.2.2.1), (529, r7.2.2.2.1), (534, r7.2.2.2.2.1), (535, r7.2.2.2.2.2.1), (536, r7.2.2.2.2.2.2.1), (537, r7.2.2.2.2.2.2.2.1), (538, r7.2.2.2.2.2.2.2.2)] []) ok_X15_isBarn rfl q_cn ?_
    cases hf
    exact q_kri ok_X15_isBarn rfl rfl rfl (Nat.le_of_ble_eq_true rfl) (Nat.le_of_ble_eq_true rfl) ⟨rfl, q_hpe (q_pdw [492, 497, 529, 534, 535, 536, 537, 538] rfl rfl) (q_pdw [] rfl rfl)⟩
  · intro hz1
    have hf := q_in (fun h9 => absurd (hz1.symm.trans h9) (by decide)) hf
    refine q_Jmrg (lI' := [(492, r7.2.1), (497, r7.2.2.1), (529, r7.2.2.2.1), (534, r7.2.2.2.2.1), (535, r7.2.2.2.2.2.1), (536, r7.2.2.2.2.2.2.1), (537, r7.2.2.2.2.2.2.2.1), (538, r7.2.2.2.2.2.2.2.2)]) (lE' := []) (q_mgw rfl rfl) (q_mgw rfl rfl) ?_
    refine q_blk 1 [] (c' := q_kc (t, r, 0, 529, 539, (q_pE ext), (q_pR rx), L) I E 12 [none] [.int (0 : Int32)] [(492, r7.2.1), (497, r7.2.2.1), (529, r7.2.2.2.1), (534, r7.2.2.2.2.1), (535, r7.2.2.2.2.2.1), (536, r7.2.2.2.2.2.2.1), (537, r7.2.2.2.2.2.2.2.1), (538, r7.2.2.2.2.2.2.2.2)] []) ok_X15_isBarn rfl q_cn ?_
    cases hf
    exact q_kri ok_X15_isBarn rfl rfl rfl (Nat.le_of_ble_eq_true rfl) (Nat.le_of_ble_eq_true rfl) ⟨rfl, q_hpe (q_pdw [492, 497, 529, 534, 535, 536, 537, 538] rfl rfl) (q_pdw [] rfl rfl)⟩
set_option maxHeartbeats 4000000 in
theorem lp_X15_isSame_L13_492_P {g : q_G} {d mc ms : Nat} {h0 : q_H} {Q : (Option Value ⊕ String) → q_H → Prop} {k n : Nat} {t : Nat} {r : Nat} {ext : Nat → q_Sh} {rx : Nat → Nat → Option Nat} {L : Nat → Nat → Int64} (hd : 1 ≤ d) (hk : k ≤ mc) (hn : n ≤ ms)  {v1 : Int32} {v2 : Int32} : ∀ (fu : Nat) {I : Nat → Nat → Int32} {E : Nat → Nat → Option Nat} {v3 : Int32} {r0 : Nat} (hf : f_X15_isSame_L13 (I 493) (I 495) (I 496) v1 v2 fu v3 = some r0) (hK0 : r0 = 0 → q_J g m_X15_isSame d mc ms h0 [] Q k n (q_kc (t, r, 0, 529, 539, (q_pE ext), (q_pR rx), L) I E 42 [none, none, none, none] [] [] [])) (hK1 : r0 = 1 → q_J g m_X15_isSame d mc ms h0 [] Q k n (q_kc (t, r, 0, 529, 539, (q_pE ext), (q_pR rx), L) I E 38 [none, none, none, none] [] [] [])), q_J g m_X15_isSame d mc ms h0 [] Q k n (13, [some (.ref 492), some (.int v1), some (.int v2), some (.int v3)], [], q_hp (t, r, 0, 529, 539, (q_pE ext), (q_pR rx), L) I E) := by
  intro fu
  induction fu with
  | zero =>
    intro I E v3 r0 hf hK0 hK1
    rw [f_X15_isSame_L13] at hf
    cases hf
  | succ fu ih =>
    intro I E v3 r0 hf hK0 hK1
    rw [f_X15_isSame_L13] at hf
    change q_J g m_X15_isSame d mc ms h0 [] Q k n (q_kc (t, r, 0, 529, 539, (q_pE ext), (q_pR rx), L) I E 13 [some (.ref 492), some (.int v1), some (.int v2), some (.int v3)] [] [] [])
    obtain ⟨j1, hj1, hf⟩ := q_bd hf
    refine q_blf 5 [j1] (a := q_kc (t, r, 0, 529, 539, (q_pE ext), (q_pR rx), L) I E 42 [some (.ref 492), some (.int v1), some (.int v2), some (.int v3)] [] [] []) (b := q_kc (t, r, 0, 529, 539, (q_pE ext), (q_pR rx), L) I E 19 [some (.ref 492), some (.int v1), some (.int v2), some (.int v3)] [] [] []) (P := ((I 496) j1) ≤ v3) ok_X15_isSame rfl (q_cc hj1 q_cn) (fun h2 => ?_) (fun h2 => ?_)
    · have hf := q_ip h2 hf
      refine q_less (ls' := [none, none, none, none]) (q_sb1 (q_sb1 (q_sb1 (q_sb1 q_sb0)))) ?_
      cases hf
      exact q_Jpad (q_pdw [] rfl rfl) (q_pdw [] rfl rfl) (hK0 rfl)
    · have hf := q_in h2 hf
      obtain ⟨j3, hj3, hf⟩ := q_bd hf
      obtain ⟨j4, hj4, hf⟩ := q_bd hf
      obtain ⟨j5, hj5, hf⟩ := q_bd hf
      obtain ⟨j6, hj6, hf⟩ := q_bd hf
      refine q_blf 18 [j3, j4, j5, j6] (a := q_kc (t, r, 0, 529, 539, (q_pE ext), (q_pR rx), L) I E 40 [some (.ref 492), some (.int v1), some (.int v2), some (.int v3)] [] [] []) (b := q_kc (t, r, 0, 529, 539, (q_pE ext), (q_pR rx), L) I E 38 [some (.ref 492), some (.int v1), some (.int v2), some (.int v3)] [] [] []) (P := ((I 493) j4) = ((I 493) j6)) ok_X15_isSame rfl (q_cc hj6 (q_cc hj5 (q_cc hj4 (q_cc hj3 q_cn)))) (fun h7 => ?_) (fun h7 => ?_)
      · have hf := q_ip h7 hf
        refine q_blk 2 [] (c' := q_kc (t, r, 0, 529, 539, (q_pE ext), (q_pR rx), L) I E 13 [some (.ref 492), some (.int v1), some (.int v2), some (.int (v3 + 1))] [] [] []) ok_X15_isSame rfl q_cn ?_
        exact ih (I := q_ws I []) (E := q_ws E []) hf (fun hz => q_Jmrg (q_mgw rfl rfl) (q_mgw rfl rfl) (hK0 hz)) (fun hz => q_Jmrg (q_mgw rfl rfl) (q_mgw rfl rfl) (hK1 hz))
      · have hf := q_in h7 hf
        refine q_less (ls' := [none, none, none, none]) (q_sb1 (q_sb1 (q_sb1 (q_sb1 q_sb0)))) ?_
        cases hf
        exact q_Jpad (q_pdw [] rfl rfl) (q_pdw [] rfl rfl) (hK1 rfl)
set_option maxHeartbeats 4000000 in
theorem ct_X15_isSame_492_P {g : q_G} {t : Nat} {r : Nat} {ext : Nat → q_Sh} {rx : Nat → Nat → Option Nat} {L : Nat → Nat → Int64} {d : Nat} (hd : 1 ≤ d)  {I : Nat → Nat → Int32} {E : Nat → Nat → Option Nat} {x1 : Int32} {x2 : Int32} {r0 : Bool} (hf : f_X15_isSame (I 493) (I 495) (I 496) x1 x2 = some r0) : q_Ct g m_X15_isSame d 0 0 [] [.ref 492, .int x1, .int x2] (q_hp (t, r, 0, 529, 539, (q_pE ext), (q_pR rx), L) I E) (fun o h' => o = .inl (some (.int (q_bz r0))) ∧ h' = q_hp (t, r, 0, 529, 539, (q_pE ext), (q_pR rx), L) (q_ws I []) (q_ws E [])) := by
  rw [f_X15_isSame] at hf
  refine q_Ct_of ok_X15_isSame (Nat.le_of_ble_eq_true rfl) ?_ _ rfl rfl
  change q_J g m_X15_isSame d 0 0 _ [] _ 0 0 (q_kc (t, r, 0, 529, 539, (q_pE ext), (q_pR rx), L) I E 0 [some (.ref 492), some (.int x1), some (.int x2), none] [] [] [])
  obtain ⟨j8, hj8, hf⟩ := q_bd hf
  obtain ⟨j9, hj9, hf⟩ := q_bd hf
  refine q_blf 8 [j8, j9] (a := q_kc (t, r, 0, 529, 539, (q_pE ext), (q_pR rx), L) I E 11 [some (.ref 492), some (.int x1), some (.int x2), none] [] [] []) (b := q_kc (t, r, 0, 529, 539, (q_pE ext), (q_pR rx), L) I E 9 [some (.ref 492), some (.int x1), some (.int x2), none] [] [] []) (P := ((I 496) j8) = ((I 496) j9)) ok_X15_isSame rfl (q_cc hj9 (q_cc hj8 q_cn)) (fun h10 => ?_) (fun h10 => ?_)
  · have hf := q_ip h10 hf
    refine q_blk 2 [] (c' := q_kc (t, r, 0, 529, 539, (q_pE ext), (q_pR rx), L) I E 13 [some (.ref 492), some (.int x1), some (.int x2), some (.int (0 : Int32))] [] [] []) ok_X15_isSame rfl q_cn ?_
    obtain ⟨r11, hr11, hf⟩ := q_bd hf
    refine lp_X15_isSame_L13_492_P (I := q_ws I []) (E := q_ws E []) hd (Nat.le_of_ble_eq_true rfl) (Nat.le_of_ble_eq_true rfl) 4096 hr11 ?_ ?_
    · intro hz0
      have hf := q_ip hz0 hf
      refine q_Jmrg (lI' := []) (lE' := []) (q_mgw rfl rfl) (q_mgw rfl rfl) ?_
      refine q_blk 1 [] (c' := q_kc (t, r, 0, 529, 539, (q_pE ext), (q_pR rx), L) I E 43 [none, none, none, none] [.int (1 : Int32)] [] []) ok_X15_isSame rfl q_cn ?_
      cases hf
      exact q_kri ok_X15_isSame rfl rfl rfl (Nat.le_of_ble_eq_true rfl) (Nat.le_of_ble_eq_true rfl) ⟨rfl, q_hpe (q_pdw [] rfl rfl) (q_pdw [] rfl rfl)⟩
    · intro hz1
      have hf := q_in (fun h9 => absurd (hz1.symm.trans h9) (by decide)) hf
      refine q_Jmrg (lI' := []) (lE' := []) (q_mgw rfl rfl) (q_mgw rfl rfl) ?_
      refine q_blk 1 [] (c' := q_kc (t, r, 0, 529, 539, (q_pE ext), (q_pR rx), L) I E 39 [none, none, none, none] [.int (0 : Int32)] [] []) ok_X15_isSame rfl q_cn ?_
      cases hf
      exact q_kri ok_X15_isSame rfl rfl rfl (Nat.le_of_ble_eq_true rfl) (Nat.le_of_ble_eq_true rfl) ⟨rfl, q_hpe (q_pdw [] rfl rfl) (q_pdw [] rfl rfl)⟩
  · have hf := q_in h10 hf
    refine q_blk 1 [] (c' := q_kc (t, r, 0, 529, 539, (q_pE ext), (q_pR rx), L) I E 10 [some (.ref 492), some (.int x1), some (.int x2), none] [.int (0 : Int32)] [] []) ok_X15_isSame rfl q_cn ?_
    cases hf
    exact q_kri ok_X15_isSame rfl rfl rfl (Nat.le_of_ble_eq_true rfl) (Nat.le_of_ble_eq_true rfl) ⟨rfl, q_hpe (q_pdw [] rfl rfl) (q_pdw [] rfl rfl)⟩
set_option maxHeartbeats 4000000 in
theorem lp_X15_told_L4_492_P {g : q_G} {d mc ms : Nat} {h0 : q_H} {Q : (Option Value ⊕ String) → q_H → Prop} {k n : Nat} {t : Nat} {r : Nat} {ext : Nat → q_Sh} {rx : Nat → Nat → Option Nat} {L : Nat → Nat → Int64} (hd : 2 ≤ d) (hk : k ≤ mc) (hn : n ≤ ms)  {v1 : Int32} {v2 : Int32} : ∀ (fu : Nat) {I : Nat → Nat → Int32} {E : Nat → Nat → Option Nat} {v3 : Int32} {v4 : Int32} {r0 : Nat × Int32} (hf : f_X15_told_L4 (I 493) (I 495) (I 496) (I 497) v1 v2 fu v3 v4 = some r0) (hK0 : r0.1 = 0 → q_J g m_X15_told d mc ms h0 [] Q k n (q_kc (t, r, 0, 529, 539, (q_pE ext), (q_pR rx), L) I E 24 [none, none, none, none, none] [] [] [])) (hK1 : r0.1 = 1 → q_J g m_X15_told d mc ms h0 [] Q k n (q_kc (t, r, 0, 529, 539, (q_pE ext), (q_pR rx), L) I E 19 [none, none, none, some (.int r0.2), none] [] [] [])), q_J g m_X15_told d mc ms h0 [] Q k n (4, [some (.ref 492), some (.int v1), some (.int v2), some (.int v3), some (.int v4)], [], q_hp (t, r, 0, 529, 539, (q_pE ext), (q_pR rx), L) I E) := by
  intro fu
  induction fu with
  | zero =>
    intro I E v3 v4 r0 hf hK0 hK1
    rw [f_X15_told_L4] at hf
    cases hf
  | succ fu ih =>
    intro I E v3 v4 r0 hf hK0 hK1
    rw [f_X15_told_L4] at hf
    change q_J g m_X15_told d mc ms h0 [] Q k n (q_kc (t, r, 0, 529, 539, (q_pE ext), (q_pR rx), L) I E 4 [some (.ref 492), some (.int v1), some (.int v2), some (.int v3), some (.int v4)] [] [] [])
    refine q_blf 2 [] (a := q_kc (t, r, 0, 529, 539, (q_pE ext), (q_pR rx), L) I E 24 [some (.ref 492), some (.int v1), some (.int v2), some (.int v3), some (.int v4)] [] [] []) (b := q_kc (t, r, 0, 529, 539, (q_pE ext), (q_pR rx), L) I E 7 [some (.ref 492), some (.int v1), some (.int v2), some (.int v3), some (.int v4)] [] [] []) (P := v1 ≤ v4) ok_X15_told rfl q_cn (fun h1 => ?_) (fun h1 => ?_)
    · have hf := q_ip h1 hf
      refine q_less (ls' := [none, none, none, none, none]) (q_sb1 (q_sb1 (q_sb1 (q_sb1 (q_sb1 q_sb0))))) ?_
      cases hf
      exact q_Jpad (q_pdw [] rfl rfl) (q_pdw [] rfl rfl) (hK0 rfl)
    · have hf := q_in h1 hf
      obtain ⟨j2, hj2, hf⟩ := q_bd hf
      refine q_blf 5 [j2] (a := q_kc (t, r, 0, 529, 539, (q_pE ext), (q_pR rx), L) I E 14 [some (.ref 492), some (.int v1), some (.int v2), some (.int v3), some (.int v4)] [] [] []) (b := q_kc (t, r, 0, 529, 539, (q_pE ext), (q_pR rx), L) I E 13 [some (.ref 492), some (.int v1), some (.int v2), some (.int v3), some (.int v4)] [] [] []) (P := ((I 497) j2) = v2) ok_X15_told rfl (q_cc hj2 q_cn) (fun h3 => ?_) (fun h3 => ?_)
      · have hf := q_ip h3 hf
        refine q_blk 3 [] (c' := q_kc (t, r, 0, 529, 539, (q_pE ext), (q_pR rx), L) I E 17 [some (.ref 492), some (.int v1), some (.int v2), some (.int v3), some (.int v4)] [.int v1, .int v4, .ref 492] [] []) ok_X15_told rfl q_cn ?_
        obtain ⟨r4, hr4, hf⟩ := q_bd hf
        refine q_kV (M2 := m_X15_isSame) (As := [.int v4, .int v1]) (b := 492) (v2 := some (.int (q_bz r4))) ok_X15_told ok_X15_isSame cv_X15_isSame (ct_X15_isSame_492_P (d := 1) (Nat.le_refl _) hr4) rfl rfl (Or.inl rfl) rfl rfl rfl rfl (Nat.le_trans (Nat.le_of_ble_eq_true rfl) hd) hk hn (Nat.le_of_ble_eq_true rfl) (fun x hx => absurd hx List.not_mem_nil) (q_nmL0 _) (q_nmS0 _) rfl (pos' := 18) (st' := [.int (q_bz r4)]) (lI' := []) (lE' := []) rfl rfl rfl rfl ?_
        refine q_blf 0 [] (a := q_kc (t, r, 0, 529, 539, (q_pE ext), (q_pR rx), L) I E 21 [some (.ref 492), some (.int v1), some (.int v2), some (.int v3), some (.int v4)] [] [] []) (b := q_kc (t, r, 0, 529, 539, (q_pE ext), (q_pR rx), L) I E 19 [some (.ref 492), some (.int v1), some (.int v2), some (.int v3), some (.int v4)] [] [] []) (P := (q_bz r4) = 0) ok_X15_told rfl q_cn (fun h5 => ?_) (fun h5 => ?_)
        · have hf := q_ip h5 hf
          refine q_blk 3 [] (c' := q_kc (t, r, 0, 529, 539, (q_pE ext), (q_pR rx), L) I E 4 [some (.ref 492), some (.int v1), some (.int v2), some (.int (v3 + 1)), some (.int (v4 + 1))] [] [] []) ok_X15_told rfl q_cn ?_
          exact ih (I := q_ws I []) (E := q_ws E []) hf (fun hz => q_Jmrg (q_mgw rfl rfl) (q_mgw rfl rfl) (hK0 hz)) (fun hz => q_Jmrg (q_mgw rfl rfl) (q_mgw rfl rfl) (hK1 hz))
        · have hf := q_in h5 hf
          refine q_less (ls' := [none, none, none, some (.int v3), none]) (q_sb1 (q_sb1 (q_sb1 (q_sb2 (q_sb1 q_sb0))))) ?_
          cases hf
          exact q_Jpad (q_pdw [] rfl rfl) (q_pdw [] rfl rfl) (hK1 rfl)
      · have hf := q_in h3 hf
        refine q_blk 3 [] (c' := q_kc (t, r, 0, 529, 539, (q_pE ext), (q_pR rx), L) I E 4 [some (.ref 492), some (.int v1), some (.int v2), some (.int v3), some (.int (v4 + 1))] [] [] []) ok_X15_told rfl q_cn ?_
        exact ih (I := q_ws I []) (E := q_ws E []) hf (fun hz => q_Jmrg (q_mgw rfl rfl) (q_mgw rfl rfl) (hK0 hz)) (fun hz => q_Jmrg (q_mgw rfl rfl) (q_mgw rfl rfl) (hK1 hz))
set_option maxHeartbeats 4000000 in
theorem ct_X15_told_492_P {g : q_G} {t : Nat} {r : Nat} {ext : Nat → q_Sh} {rx : Nat → Nat → Option Nat} {L : Nat → Nat → Int64} {d : Nat} (hd : 2 ≤ d)  {I : Nat → Nat → Int32} {E : Nat → Nat → Option Nat} {x1 : Int32} {x2 : Int32} {r0 : Int32} (hf : f_X15_told (I 493) (I 495) (I 496) (I 497) x1 x2 = some r0) : q_Ct g m_X15_told d 0 0 [] [.ref 492, .int x1, .int x2] (q_hp (t, r, 0, 529, 539, (q_pE ext), (q_pR rx), L) I E) (fun o h' => o = .inl (some (.int r0)) ∧ h' = q_hp (t, r, 0, 529, 539, (q_pE ext), (q_pR rx), L) (q_ws I []) (q_ws E [])) := by
  rw [f_X15_told] at hf
  refine q_Ct_of ok_X15_told (Nat.le_of_ble_eq_true rfl) ?_ _ rfl rfl
  change q_J g m_X15_told d 0 0 _ [] _ 0 0 (q_kc (t, r, 0, 529, 539, (q_pE ext), (q_pR rx), L) I E 0 [some (.ref 492), some (.int x1), some (.int x2), none, none] [] [] [])
  refine q_blk 4 [] (c' := q_kc (t, r, 0, 529, 539, (q_pE ext), (q_pR rx), L) I E 4 [some (.ref 492), some (.int x1), some (.int x2), some (.int (0 : Int32)), some (.int (0 : Int32))] [] [] []) ok_X15_told rfl q_cn ?_
  obtain ⟨r6, hr6, hf⟩ := q_bd hf
  refine lp_X15_told_L4_492_P (I := q_ws I []) (E := q_ws E []) hd (Nat.le_of_ble_eq_true rfl) (Nat.le_of_ble_eq_true rfl) 4096 hr6 ?_ ?_
  · intro hz0
    have hf := q_ip hz0 hf
    refine q_Jmrg (lI' := []) (lE' := []) (q_mgw rfl rfl) (q_mgw rfl rfl) ?_
    refine q_blk 1 [] (c' := q_kc (t, r, 0, 529, 539, (q_pE ext), (q_pR rx), L) I E 25 [none, none, none, none, none] [.int (-1 : Int32)] [] []) ok_X15_told rfl q_cn ?_
    cases hf
    exact q_kri ok_X15_told rfl rfl rfl (Nat.le_of_ble_eq_true rfl) (Nat.le_of_ble_eq_true rfl) ⟨rfl, q_hpe (q_pdw [] rfl rfl) (q_pdw [] rfl rfl)⟩
  · intro hz1
    have hf := q_in (fun h9 => absurd (hz1.symm.trans h9) (by decide)) hf
    refine q_Jmrg (lI' := []) (lE' := []) (q_mgw rfl rfl) (q_mgw rfl rfl) ?_
    refine q_blk 1 [] (c' := q_kc (t, r, 0, 529, 539, (q_pE ext), (q_pR rx), L) I E 20 [none, none, none, some (.int r6.2), none] [.int r6.2] [] []) ok_X15_told rfl q_cn ?_
    cases hf
    exact q_kri ok_X15_told rfl rfl rfl (Nat.le_of_ble_eq_true rfl) (Nat.le_of_ble_eq_true rfl) ⟨rfl, q_hpe (q_pdw [] rfl rfl) (q_pdw [] rfl rfl)⟩
set_option maxHeartbeats 4000000 in
theorem ct_X15_isNew_492_P {g : q_G} {t : Nat} {r : Nat} {ext : Nat → q_Sh} {rx : Nat → Nat → Option Nat} {L : Nat → Nat → Int64} {d : Nat} (hd : 3 ≤ d)  {I : Nat → Nat → Int32} {E : Nat → Nat → Option Nat} {x1 : Int32} {x2 : Int32} {x3 : Int32} {r0 : Int32} (hf : f_X15_isNew (I 493) (I 495) (I 496) (I 497) x1 x2 x3 = some r0) : q_Ct g m_X15_isNew d 0 0 [] [.ref 492, .int x1, .int x2, .int x3] (q_hp (t, r, 0, 529, 539, (q_pE ext), (q_pR rx), L) I E) (fun o h' => o = .inl (some (.int r0)) ∧ h' = q_hp (t, r, 0, 529, 539, (q_pE ext), (q_pR rx), L) (q_ws I []) (q_ws E [])) := by
  rw [f_X15_isNew] at hf
  refine q_Ct_of ok_X15_isNew (Nat.le_of_ble_eq_true rfl) ?_ _ rfl rfl
  change q_J g m_X15_isNew d 0 0 _ [] _ 0 0 (q_kc (t, r, 0, 529, 539, (q_pE ext), (q_pR rx), L) I E 0 [some (.ref 492), some (.int x1), some (.int x2), some (.int x3)] [] [] [])
  obtain ⟨j1, hj1, hf⟩ := q_bd hf
  refine q_blk 6 [j1] (c' := q_kc (t, r, 0, 529, 539, (q_pE ext), (q_pR rx), L) I E 6 [some (.ref 492), some (.int x1), some (.int x2), some (.int x3)] [.int ((I 497) j1), .int x1, .ref 492] [] []) ok_X15_isNew rfl (q_cc hj1 q_cn) ?_
  obtain ⟨r2, hr2, hf⟩ := q_bd hf
  refine q_kV (M2 := m_X15_told) (As := [.int x1, .int ((I 497) j1)]) (b := 492) (v2 := some (.int r2)) ok_X15_isNew ok_X15_told cv_X15_told (ct_X15_told_492_P (d := 2) (Nat.le_refl _) hr2) rfl rfl (Or.inl rfl) rfl rfl rfl rfl (Nat.le_trans (Nat.le_of_ble_eq_true rfl) hd) (Nat.le_of_ble_eq_true rfl) (Nat.le_of_ble_eq_true rfl) (Nat.le_of_ble_eq_true rfl) (fun x hx => absurd hx List.not_mem_nil) (q_nmL0 _) (q_nmS0 _) rfl (pos' := 7) (st' := [.int r2]) (lI' := []) (lE' := []) rfl rfl rfl rfl ?_
  refine q_blf 1 [] (a := q_kc (t, r, 0, 529, 539, (q_pE ext), (q_pR rx), L) I E 11 [some (.ref 492), some (.int x1), some (.int x2), some (.int x3)] [] [] []) (b := q_kc (t, r, 0, 529, 539, (q_pE ext), (q_pR rx), L) I E 9 [some (.ref 492), some (.int x1), some (.int x2), some (.int x3)] [] [] []) (P := r2 = (-1 : Int32)) ok_X15_isNew rfl q_cn (fun h3 => ?_) (fun h3 => ?_)
  · have hf := q_ip h3 hf
    refine q_blf 2 [] (a := q_kc (t, r, 0, 529, 539, (q_pE ext), (q_pR rx), L) I E 16 [some (.ref 492), some (.int x1), some (.int x2), some (.int x3)] [] [] []) (b := q_kc (t, r, 0, 529, 539, (q_pE ext), (q_pR rx), L) I E 14 [some (.ref 492), some (.int x1), some (.int x2), some (.int x3)] [] [] []) (P := ¬ x2 = x3) ok_X15_isNew rfl q_cn (fun h4 => ?_) (fun h4 => ?_)
    · have hf := q_ip h4 hf
      refine q_blk 1 [] (c' := q_kc (t, r, 0, 529, 539, (q_pE ext), (q_pR rx), L) I E 17 [some (.ref 492), some (.int x1), some (.int x2), some (.int x3)] [.int (0 : Int32)] [] []) ok_X15_isNew rfl q_cn ?_
      cases hf
      exact q_kri ok_X15_isNew rfl rfl rfl (Nat.le_of_ble_eq_true rfl) (Nat.le_of_ble_eq_true rfl) ⟨rfl, q_hpe (q_pdw [] rfl rfl) (q_pdw [] rfl rfl)⟩
    · have hf := q_in h4 hf
      refine q_blk 2 [] (c' := q_kc (t, r, 0, 529, 539, (q_pE ext), (q_pR rx), L) I E 17 [some (.ref 492), some (.int x1), some (.int x2), some (.int x3)] [.int (4 : Int32)] [] []) ok_X15_isNew rfl q_cn ?_
      cases hf
      exact q_kri ok_X15_isNew rfl rfl rfl (Nat.le_of_ble_eq_true rfl) (Nat.le_of_ble_eq_true rfl) ⟨rfl, q_hpe (q_pdw [] rfl rfl) (q_pdw [] rfl rfl)⟩
  · have hf := q_in h3 hf
    refine q_blk 2 [] (c' := q_kc (t, r, 0, 529, 539, (q_pE ext), (q_pR rx), L) I E 17 [some (.ref 492), some (.int x1), some (.int x2), some (.int x3)] [.int (2 : Int32)] [] []) ok_X15_isNew rfl q_cn ?_
    cases hf
    exact q_kri ok_X15_isNew rfl rfl rfl (Nat.le_of_ble_eq_true rfl) (Nat.le_of_ble_eq_true rfl) ⟨rfl, q_hpe (q_pdw [] rfl rfl) (q_pdw [] rfl rfl)⟩
set_option maxHeartbeats 4000000 in
theorem ct_X15_newHook_492_P {g : q_G} {t : Nat} {r : Nat} {ext : Nat → q_Sh} {rx : Nat → Nat → Option Nat} {L : Nat → Nat → Int64} {d : Nat} (hd : 4 ≤ d)  {I : Nat → Nat → Int32} {E : Nat → Nat → Option Nat} {x1 : Int32} {r0 : Int32 × (Nat → Int32)} (hf : f_X15_newHook (I 493) (I 495) (I 496) (I 497) (I 529) x1 = some r0) : q_Ct g m_X15_newHook d 0 0 [] [.ref 492, .int x1] (q_hp (t, r, 0, 529, 539, (q_pE ext), (q_pR rx), L) I E) (fun o h' => o = .inl (some (.int r0.1)) ∧ h' = q_hp (t, r, 0, 529, 539, (q_pE ext), (q_pR rx), L) (q_ws I [(529, r0.2)]) (q_ws E [])) := by
  rw [f_X15_newHook] at hf
  refine q_Ct_of ok_X15_newHook (Nat.le_of_ble_eq_true rfl) ?_ _ rfl rfl
  change q_J g m_X15_newHook d 0 0 _ [] _ 0 0 (q_kc (t, r, 0, 529, 539, (q_pE ext), (q_pR rx), L) I E 0 [some (.ref 492), some (.int x1), none] [] [] [])
  refine q_blk 6 [] (c' := q_kc (t, r, 0, 529, 539, (q_pE ext), (q_pR rx), L) I E 6 [some (.ref 492), some (.int x1), none] [.int (6 : Int32), .int ((I 529) 0), .int x1, .ref 492] [] []) ok_X15_newHook rfl q_cn ?_
  obtain ⟨r1, hr1, hf⟩ := q_bd hf
  refine q_kV (M2 := m_X15_isNew) (As := [.int x1, .int ((I 529) 0), .int (6 : Int32)]) (b := 492) (v2 := some (.int r1)) ok_X15_newHook ok_X15_isNew cv_X15_isNew (ct_X15_isNew_492_P (d := 3) (Nat.le_refl _) hr1) rfl rfl (Or.inl rfl) rfl rfl rfl rfl (Nat.le_trans (Nat.le_of_ble_eq_true rfl) hd) (Nat.le_of_ble_eq_true rfl) (Nat.le_of_ble_eq_true rfl) (Nat.le_of_ble_eq_true rfl) (fun x hx => absurd hx List.not_mem_nil) (q_nmL0 _) (q_nmS0 _) rfl (pos' := 7) (st' := [.int r1]) (lI' := []) (lE' := []) rfl rfl rfl rfl ?_
  refine q_blf 6 [] (a := q_kc (t, r, 0, 529, 539, (q_pE ext), (q_pR rx), L) I E 16 [some (.ref 492), some (.int x1), some (.int r1)] [.int ((I 529) 0), .ref 529] [] []) (b := q_kc (t, r, 0, 529, 539, (q_pE ext), (q_pR rx), L) I E 14 [some (.ref 492), some (.int x1), some (.int r1)] [.int ((I 529) 0), .ref 529] [] []) (P := ¬ r1 = 0) ok_X15_newHook rfl q_cn (fun h2 => ?_) (fun h2 => ?_)
  · have hf := q_ip h2 hf
    refine q_blk 4 [] (c' := q_kc (t, r, 0, 529, 539, (q_pE ext), (q_pR rx), L) I E 20 [some (.ref 492), some (.int x1), some (.int r1)] [.int r1] [(529, (q_up (I 529) 0 (((I 529) 0) + (0 : Int32))))] []) ok_X15_newHook rfl q_cn ?_
    cases hf
    exact q_kri ok_X15_newHook rfl rfl rfl (Nat.le_of_ble_eq_true rfl) (Nat.le_of_ble_eq_true rfl) ⟨rfl, q_hpe (q_pdw [529] rfl rfl) (q_pdw [] rfl rfl)⟩
  · have hf := q_in h2 hf
    refine q_blk 5 [] (c' := q_kc (t, r, 0, 529, 539, (q_pE ext), (q_pR rx), L) I E 20 [some (.ref 492), some (.int x1), some (.int r1)] [.int r1] [(529, (q_up (I 529) 0 (((I 529) 0) + (1 : Int32))))] []) ok_X15_newHook rfl q_cn ?_
    cases hf
    exact q_kri ok_X15_newHook rfl rfl rfl (Nat.le_of_ble_eq_true rfl) (Nat.le_of_ble_eq_true rfl) ⟨rfl, q_hpe (q_pdw [529] rfl rfl) (q_pdw [] rfl rfl)⟩
set_option maxHeartbeats 4000000 in
theorem ct_X15_newStep_492_P {g : q_G} {t : Nat} {r : Nat} {ext : Nat → q_Sh} {rx : Nat → Nat → Option Nat} {L : Nat → Nat → Int64} {d : Nat} (hd : 1 ≤ d)  {I : Nat → Nat → Int32} {E : Nat → Nat → Option Nat} {x1 : Int32} {r0 : Int32 × (Nat → Int32) × (Nat → Int32)} (hf : f_X15_newStep (I 529) (I 530) x1 = some r0) : q_Ct g m_X15_newStep d 0 0 [] [.ref 492, .int x1] (q_hp (t, r, 0, 529, 539, (q_pE ext), (q_pR rx), L) I E) (fun o h' => o = .inl (some (.int r0.1)) ∧ h' = q_hp (t, r, 0, 529, 539, (q_pE ext), (q_pR rx), L) (q_ws I [(529, r0.2.1), (530, r0.2.2)]) (q_ws E [])) := by
  rw [f_X15_newStep] at hf
  refine q_Ct_of ok_X15_newStep (Nat.le_of_ble_eq_true rfl) ?_ _ rfl rfl
  change q_J g m_X15_newStep d 0 0 _ [] _ 0 0 (q_kc (t, r, 0, 529, 539, (q_pE ext), (q_pR rx), L) I E 0 [some (.ref 492), some (.int x1)] [] [] [])
  refine q_blf 4 [] (a := q_kc (t, r, 0, 529, 539, (q_pE ext), (q_pR rx), L) I E 7 [some (.ref 492), some (.int x1)] [] [] []) (b := q_kc (t, r, 0, 529, 539, (q_pE ext), (q_pR rx), L) I E 5 [some (.ref 492), some (.int x1)] [] [] []) (P := ¬ ((I 529) 4) = (20 : Int32)) ok_X15_newStep rfl q_cn (fun h1 => ?_) (fun h1 => ?_)
  · have hf := q_ip h1 hf
    obtain ⟨j2, hj2, hf⟩ := q_bd hf
    refine q_blk 16 [j2] (c' := q_kc (t, r, 0, 529, 539, (q_pE ext), (q_pR rx), L) I E 23 [some (.ref 492), some (.int x1)] [.int (0 : Int32)] [(529, (q_up (I 529) 4 (((I 529) 4) + (1 : Int32)))), (530, (q_up (I 530) j2 x1))] []) ok_X15_newStep rfl (q_cc hj2 q_cn) ?_
    cases hf
    exact q_kri ok_X15_newStep rfl rfl rfl (Nat.le_of_ble_eq_true rfl) (Nat.le_of_ble_eq_true rfl) ⟨rfl, q_hpe (q_pdw [529, 530] rfl rfl) (q_pdw [] rfl rfl)⟩
  · have hf := q_in h1 hf
    refine q_blk 1 [] (c' := q_kc (t, r, 0, 529, 539, (q_pE ext), (q_pR rx), L) I E 6 [some (.ref 492), some (.int x1)] [.int (4 : Int32)] [] []) ok_X15_newStep rfl q_cn ?_
    cases hf
    exact q_kri ok_X15_newStep rfl rfl rfl (Nat.le_of_ble_eq_true rfl) (Nat.le_of_ble_eq_true rfl) ⟨rfl, q_hpe (q_pdw [529, 530] rfl rfl) (q_pdw [] rfl rfl)⟩
