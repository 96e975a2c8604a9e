set_option maxHeartbeats 4000000 in
theorem ct_X15_look_492_P {g : q_G} {t : Nat} {r : Nat} {ext : Nat → q_Sh} {rx : Nat → Nat → Option Nat} {L : Nat → Nat → Int64} {d : Nat} (hd : 3 ≤ d)  {I : Nat → Nat → Int32} {E : Nat → Nat → Option Nat} {x1 : Int32} {x2 : Int32} {r0 : Int32 × (Nat → Int32)} (hf : f_X15_look (I 493) (I 495) (I 496) (I 497) (I 498) x1 x2 = some r0) : q_Ct g m_X15_look d 0 0 [] [.ref 492, .int x1, .int x2] (q_hp (t, r, 0, 529, 539, (q_pE ext), (q_pR rx), L) I E) (fun o h' => o = .inl (some (.int r0.1)) ∧ h' = q_hp (t, r, 0, 529, 539, (q_pE ext), (q_pR rx), L) (q_ws I [(498, r0.2)]) (q_ws E [])) := by
  rw [f_X15_look] at hf
  refine q_Ct_of ok_X15_look (Nat.le_of_ble_eq_true rfl) ?_ _ rfl rfl
  change q_J g m_X15_look d 0 0 _ [] _ 0 0 (q_kc (t, r, 0, 529, 539, (q_pE ext), (q_pR rx), L) I E 0 [some (.ref 492), some (.int x1), some (.int x2)] [] [] [])
  refine q_blk 6 [] (c' := q_kc (t, r, 0, 529, 539, (q_pE ext), (q_pR rx), L) I E 6 [some (.ref 492), some (.int x1), some (.int x2)] [.int x2, .int x1, .ref 492, .int x1, .ref 498] [] []) ok_X15_look rfl q_cn ?_
  obtain ⟨r1, hr1, hf⟩ := q_bd hf
  refine q_kV (M2 := m_X15_told) (As := [.int x1, .int x2]) (b := 492) (v2 := some (.int r1)) ok_X15_look ok_X15_told cv_X15_told (ct_X15_told_492_P (d := 2) (Nat.le_refl _) hr1) rfl rfl (Or.inl rfl) rfl rfl rfl rfl (Nat.le_trans (Nat.le_of_ble_eq_true rfl) hd) (Nat.le_of_ble_eq_true rfl) (Nat.le_of_ble_eq_true rfl) (Nat.le_of_ble_eq_true rfl) (fun x hx => absurd hx List.not_mem_nil) (q_nmL0 _) (q_nmS0 _) rfl (pos' := 7) (st' := [.int r1, .int x1, .ref 498]) (lI' := []) (lE' := []) rfl rfl rfl rfl ?_
  obtain ⟨j2, hj2, hf⟩ := q_bd hf
  obtain ⟨j3, hj3, hf⟩ := q_bd hf
  refine q_blf 6 [j2, j3] (a := q_kc (t, r, 0, 529, 539, (q_pE ext), (q_pR rx), L) I E 16 [some (.ref 492), some (.int x1), some (.int x2)] [] [(498, (q_up (I 498) j2 r1))] []) (b := q_kc (t, r, 0, 529, 539, (q_pE ext), (q_pR rx), L) I E 14 [some (.ref 492), some (.int x1), some (.int x2)] [] [(498, (q_up (I 498) j2 r1))] []) (P := ¬ ((q_up (I 498) j2 r1) j3) = (-1 : Int32)) ok_X15_look rfl (q_cc hj3 (q_cc hj2 q_cn)) (fun h4 => ?_) (fun h4 => ?_)
  · have hf := q_ip h4 hf
    refine q_blk 1 [] (c' := q_kc (t, r, 0, 529, 539, (q_pE ext), (q_pR rx), L) I E 17 [some (.ref 492), some (.int x1), some (.int x2)] [.int (0 : Int32)] [(498, (q_up (I 498) j2 r1))] []) ok_X15_look rfl q_cn ?_
    cases hf
    exact q_kri ok_X15_look rfl rfl rfl (Nat.le_of_ble_eq_true rfl) (Nat.le_of_ble_eq_true rfl) ⟨rfl, q_hpe (q_pdw [498] rfl rfl) (q_pdw [] rfl rfl)⟩
  · have hf := q_in h4 hf
    refine q_blk 2 [] (c' := q_kc (t, r, 0, 529, 539, (q_pE ext), (q_pR rx), L) I E 17 [some (.ref 492), some (.int x1), some (.int x2)] [.int (3 : Int32)] [(498, (q_up (I 498) j2 r1))] []) ok_X15_look rfl q_cn ?_
    cases hf
    exact q_kri ok_X15_look rfl rfl rfl (Nat.le_of_ble_eq_true rfl) (Nat.le_of_ble_eq_true rfl) ⟨rfl, q_hpe (q_pdw [498] rfl rfl) (q_pdw [] rfl rfl)⟩
set_option maxHeartbeats 4000000 in
theorem ct_X15_ofStep_492_P {g : q_G} {t : Nat} {r : Nat} {ext : Nat → q_Sh} {rx : Nat → Nat → Option Nat} {L : Nat → Nat → Int64} {d : Nat} (hd : 4 ≤ d)  {I : Nat → Nat → Int32} {E : Nat → Nat → Option Nat} {x1 : Int32} {r0 : Int32 × (Nat → Int32) × (Nat → Int32) × (Nat → Int32)} (hf : f_X15_ofStep (I 493) (I 495) (I 496) (I 497) (I 498) (I 529) (I 531) (I 532) x1 = some r0) : q_Ct g m_X15_ofStep d 0 0 [] [.ref 492, .int x1] (q_hp (t, r, 0, 529, 539, (q_pE ext), (q_pR rx), L) I E) (fun o h' => o = .inl (some (.int r0.1)) ∧ h' = q_hp (t, r, 0, 529, 539, (q_pE ext), (q_pR rx), L) (q_ws I [(498, r0.2.1), (531, r0.2.2.1), (532, r0.2.2.2)]) (q_ws E [])) := by
  rw [f_X15_ofStep] at hf
  refine q_Ct_of ok_X15_ofStep (Nat.le_of_ble_eq_true rfl) ?_ _ rfl rfl
  change q_J g m_X15_ofStep d 0 0 _ [] _ 0 0 (q_kc (t, r, 0, 529, 539, (q_pE ext), (q_pR rx), L) I E 0 [some (.ref 492), some (.int x1), none] [] [] [])
  refine q_blk 3 [] (c' := q_kc (t, r, 0, 529, 539, (q_pE ext), (q_pR rx), L) I E 3 [some (.ref 492), some (.int x1), none] [.int (1 : Int32), .int x1, .ref 492] [] []) ok_X15_ofStep rfl q_cn ?_
  obtain ⟨r1, hr1, hf⟩ := q_bd hf
  refine q_kV (M2 := m_X15_look) (As := [.int x1, .int (1 : Int32)]) (b := 492) (v2 := some (.int r1.1)) ok_X15_ofStep ok_X15_look cv_X15_look (ct_X15_look_492_P (d := 3) (Nat.le_refl _) hr1) rfl rfl (Or.inl rfl) rfl rfl rfl rfl (Nat.le_trans (Nat.le_of_ble_eq_true rfl) hd) (Nat.le_of_ble_eq_true rfl) (Nat.le_of_ble_eq_true rfl) (Nat.le_of_ble_eq_true rfl) (fun x hx => absurd hx List.not_mem_nil) (q_nmL0 _) (q_nmS0 _) rfl (pos' := 4) (st' := [.int r1.1]) (lI' := [(498, r1.2)]) (lE' := []) rfl rfl (q_mgw rfl rfl) rfl ?_
  obtain ⟨j2, hj2, hf⟩ := q_bd hf
  refine q_blf 6 [j2] (a := q_kc (t, r, 0, 529, 539, (q_pE ext), (q_pR rx), L) I E 25 [some (.ref 492), some (.int x1), some (.int r1.1)] [] [(498, r1.2)] []) (b := q_kc (t, r, 0, 529, 539, (q_pE ext), (q_pR rx), L) I E 11 [some (.ref 492), some (.int x1), some (.int r1.1)] [] [(498, r1.2)] []) (P := ¬ ((I 497) j2) = (3 : Int32)) ok_X15_ofStep rfl (q_cc hj2 q_cn) (fun h3 => ?_) (fun h3 => ?_)
  · have hf := q_ip h3 hf
    obtain ⟨j4, hj4, hf⟩ := q_bd hf
    obtain ⟨j5, hj5, hf⟩ := q_bd hf
    refine q_blk 14 [j4, j5] (c' := q_kc (t, r, 0, 529, 539, (q_pE ext), (q_pR rx), L) I E 39 [some (.ref 492), some (.int x1), some (.int r1.1)] [.int r1.1] [(498, r1.2), (532, (q_up (I 532) j5 (r1.2 j4)))] []) ok_X15_ofStep rfl (q_cc hj5 (q_cc hj4 q_cn)) ?_
    cases hf
    exact q_kri ok_X15_ofStep rfl rfl rfl (Nat.le_of_ble_eq_true rfl) (Nat.le_of_ble_eq_true rfl) ⟨rfl, q_hpe (q_pdw [498, 531, 532] rfl rfl) (q_pdw [] rfl rfl)⟩
  · have hf := q_in h3 hf
    obtain ⟨j6, hj6, hf⟩ := q_bd hf
    obtain ⟨j7, hj7, hf⟩ := q_bd hf
    refine q_blk 15 [j6, j7] (c' := q_kc (t, r, 0, 529, 539, (q_pE ext), (q_pR rx), L) I E 39 [some (.ref 492), some (.int x1), some (.int r1.1)] [.int r1.1] [(498, r1.2), (531, (q_up (I 531) j7 (r1.2 j6)))] []) ok_X15_ofStep rfl (q_cc hj7 (q_cc hj6 q_cn)) ?_
    cases hf
    exact q_kri ok_X15_ofStep rfl rfl rfl (Nat.le_of_ble_eq_true rfl) (Nat.le_of_ble_eq_true rfl) ⟨rfl, q_hpe (q_pdw [498, 531, 532] rfl rfl) (q_pdw [] rfl rfl)⟩
set_option maxHeartbeats 4000000 in
theorem ct_X15_isIn_P {g : q_G} {t : Nat} {r : Nat} {ext : Nat → q_Sh} {rx : Nat → Nat → Option Nat} {L : Nat → Nat → Int64} {d : Nat} (hd : 1 ≤ d)  {I : Nat → Nat → Int32} {E : Nat → Nat → Option Nat} {x0 : Int32} {x1 : Int32} {x2 : Int32} {r0 : Bool} (hf : f_X15_isIn x0 x1 x2 = some r0) : q_Ct g m_X15_isIn d 0 0 [] [.int x0, .int x1, .int x2] (q_hp (t, r, 0, 529, 539, (q_pE ext), (q_pR rx), L) I E) (fun o h' => o = .inl (some (.int (q_bz r0))) ∧ h' = q_hp (t, r, 0, 529, 539, (q_pE ext), (q_pR rx), L) (q_ws I []) (q_ws E [])) := by
  rw [f_X15_isIn] at hf
  refine q_Ct_of ok_X15_isIn (Nat.le_of_ble_eq_true rfl) ?_ _ rfl rfl
  change q_J g m_X15_isIn d 0 0 _ [] _ 0 0 (q_kc (t, r, 0, 529, 539, (q_pE ext), (q_pR rx), L) I E 0 [some (.int x0), some (.int x1), some (.int x2)] [] [] [])
  refine q_blf 2 [] (a := q_kc (t, r, 0, 529, 539, (q_pE ext), (q_pR rx), L) I E 8 [some (.int x0), some (.int x1), some (.int x2)] [] [] []) (b := q_kc (t, r, 0, 529, 539, (q_pE ext), (q_pR rx), L) I E 3 [some (.int x0), some (.int x1), some (.int x2)] [] [] []) (P := x0 < x1) ok_X15_isIn rfl q_cn (fun h1 => ?_) (fun h1 => ?_)
  · have hf := q_ip h1 hf
    refine q_blk 1 [] (c' := q_kc (t, r, 0, 529, 539, (q_pE ext), (q_pR rx), L) I E 9 [some (.int x0), some (.int x1), some (.int x2)] [.int (0 : Int32)] [] []) ok_X15_isIn rfl q_cn ?_
    cases hf
    exact q_kri ok_X15_isIn rfl rfl rfl (Nat.le_of_ble_eq_true rfl) (Nat.le_of_ble_eq_true rfl) ⟨rfl, q_hpe (q_pdw [] rfl rfl) (q_pdw [] rfl rfl)⟩
  · have hf := q_in h1 hf
    refine q_blf 2 [] (a := q_kc (t, r, 0, 529, 539, (q_pE ext), (q_pR rx), L) I E 8 [some (.int x0), some (.int x1), some (.int x2)] [] [] []) (b := q_kc (t, r, 0, 529, 539, (q_pE ext), (q_pR rx), L) I E 6 [some (.int x0), some (.int x1), some (.int x2)] [] [] []) (P := x2 < x0) ok_X15_isIn rfl q_cn (fun h2 => ?_) (fun h2 => ?_)
    · have hf := q_ip h2 hf
      refine q_blk 1 [] (c' := q_kc (t, r, 0, 529, 539, (q_pE ext), (q_pR rx), L) I E 9 [some (.int x0), some (.int x1), some (.int x2)] [.int (0 : Int32)] [] []) ok_X15_isIn rfl q_cn ?_
      cases hf
      exact q_kri ok_X15_isIn rfl rfl rfl (Nat.le_of_ble_eq_true rfl) (Nat.le_of_ble_eq_true rfl) ⟨rfl, q_hpe (q_pdw [] rfl rfl) (q_pdw [] rfl rfl)⟩
    · have hf := q_in h2 hf
      refine q_blk 2 [] (c' := q_kc (t, r, 0, 529, 539, (q_pE ext), (q_pR rx), L) I E 9 [some (.int x0), some (.int x1), some (.int x2)] [.int (1 : Int32)] [] []) ok_X15_isIn rfl q_cn ?_
      cases hf
      exact q_kri ok_X15_isIn rfl rfl rfl (Nat.le_of_ble_eq_true rfl) (Nat.le_of_ble_eq_true rfl) ⟨rfl, q_hpe (q_pdw [] rfl rfl) (q_pdw [] rfl rfl)⟩
set_option maxHeartbeats 4000000 in
theorem ct_X15_inRange_492_P {g : q_G} {t : Nat} {r : Nat} {ext : Nat → q_Sh} {rx : Nat → Nat → Option Nat} {L : Nat → Nat → Int64} {d : Nat} (hd : 2 ≤ d)  {I : Nat → Nat → Int32} {E : Nat → Nat → Option Nat} {x1 : Int32} {x2 : Int32} {x3 : Int32} {r0 : Int32} (hf : f_X15_inRange (I 493) (I 495) (I 496) x1 x2 x3 = some r0) : q_Ct g m_X15_inRange d 0 0 [] [.ref 492, .int x1, .int x2, .int x3] (q_hp (t, r, 0, 529, 539, (q_pE ext), (q_pR rx), L) I E) (fun o h' => o = .inl (some (.int r0)) ∧ h' = q_hp (t, r, 0, 529, 539, (q_pE ext), (q_pR rx), L) (q_ws I []) (q_ws E [])) := by
  rw [f_X15_inRange] at hf
  refine q_Ct_of ok_X15_inRange (Nat.le_of_ble_eq_true rfl) ?_ _ rfl rfl
  change q_J g m_X15_inRange d 0 0 _ [] _ 0 0 (q_kc (t, r, 0, 529, 539, (q_pE ext), (q_pR rx), L) I E 0 [some (.ref 492), some (.int x1), some (.int x2), some (.int x3)] [] [] [])
  refine q_blk 2 [] (c' := q_kc (t, r, 0, 529, 539, (q_pE ext), (q_pR rx), L) I E 2 [some (.ref 492), some (.int x1), some (.int x2), some (.int x3)] [.int x1, .ref 492] [] []) ok_X15_inRange rfl q_cn ?_
  obtain ⟨r1, hr1, hf⟩ := q_bd hf
  refine q_kV (M2 := m_X15_numberAt) (As := [.int x1]) (b := 492) (v2 := some (.int r1)) ok_X15_inRange ok_X15_numberAt cv_X15_numberAt (ct_X15_numberAt_492_P (d := 1) (Nat.le_refl _) hr1) rfl rfl (Or.inl rfl) rfl rfl rfl rfl (Nat.le_trans (Nat.le_of_ble_eq_true rfl) hd) (Nat.le_of_ble_eq_true rfl) (Nat.le_of_ble_eq_true rfl) (Nat.le_of_ble_eq_true rfl) (fun x hx => absurd hx List.not_mem_nil) (q_nmL0 _) (q_nmS0 _) rfl (pos' := 3) (st' := [.int r1]) (lI' := []) (lE' := []) rfl rfl rfl rfl ?_
  refine q_blk 2 [] (c' := q_kc (t, r, 0, 529, 539, (q_pE ext), (q_pR rx), L) I E 5 [some (.ref 492), some (.int x1), some (.int x2), some (.int x3)] [.int x3, .int x2, .int r1] [] []) ok_X15_inRange rfl q_cn ?_
  obtain ⟨r2, hr2, hf⟩ := q_bd hf
  refine q_kS (M2 := m_X15_isIn) (As := [.int r1, .int x2, .int x3]) (v2 := some (.int (q_bz r2))) ok_X15_inRange ok_X15_isIn cs_X15_isIn (ct_X15_isIn_P (d := 1) (Nat.le_refl _) hr2) rfl rfl (Or.inl rfl) (Nat.le_trans (Nat.le_of_ble_eq_true rfl) hd) (Nat.le_of_ble_eq_true rfl) (Nat.le_of_ble_eq_true rfl) (Nat.le_of_ble_eq_true rfl) (fun x hx => absurd hx List.not_mem_nil) (q_nmL0 _) (q_nmS0 _) rfl (pos' := 6) (st' := [.int (q_bz r2)]) (lI' := []) (lE' := []) rfl rfl rfl rfl ?_
  refine q_blf 0 [] (a := q_kc (t, r, 0, 529, 539, (q_pE ext), (q_pR rx), L) I E 9 [some (.ref 492), some (.int x1), some (.int x2), some (.int x3)] [] [] []) (b := q_kc (t, r, 0, 529, 539, (q_pE ext), (q_pR rx), L) I E 7 [some (.ref 492), some (.int x1), some (.int x2), some (.int x3)] [] [] []) (P := (q_bz r2) = 0) ok_X15_inRange rfl q_cn (fun h3 => ?_) (fun h3 => ?_)
  · have hf := q_ip h3 hf
    refine q_blk 1 [] (c' := q_kc (t, r, 0, 529, 539, (q_pE ext), (q_pR rx), L) I E 10 [some (.ref 492), some (.int x1), some (.int x2), some (.int x3)] [.int (5 : Int32)] [] []) ok_X15_inRange rfl q_cn ?_
    cases hf
    exact q_kri ok_X15_inRange rfl rfl rfl (Nat.le_of_ble_eq_true rfl) (Nat.le_of_ble_eq_true rfl) ⟨rfl, q_hpe (q_pdw [] rfl rfl) (q_pdw [] rfl rfl)⟩
  · have hf := q_in h3 hf
    refine q_blk 2 [] (c' := q_kc (t, r, 0, 529, 539, (q_pE ext), (q_pR rx), L) I E 10 [some (.ref 492), some (.int x1), some (.int x2), some (.int x3)] [.int (0 : Int32)] [] []) ok_X15_inRange rfl q_cn ?_
    cases hf
    exact q_kri ok_X15_inRange rfl rfl rfl (Nat.le_of_ble_eq_true rfl) (Nat.le_of_ble_eq_true rfl) ⟨rfl, q_hpe (q_pdw [] rfl rfl) (q_pdw [] rfl rfl)⟩
set_option maxHeartbeats 4000000 in
theorem ct_X15_number_492_P {g : q_G} {t : Nat} {r : Nat} {ext : Nat → q_Sh} {rx : Nat → Nat → Option Nat} {L : Nat → Nat → Int64} {d : Nat} (hd : 3 ≤ d)  {I : Nat → Nat → Int32} {E : Nat → Nat → Option Nat} {x1 : Int32} {r0 : Int32 × (Nat → Int32) × (Nat → Int32)} (hf : f_X15_number (I 493) (I 495) (I 496) (I 497) (I 529) (I 533) x1 = some r0) : q_Ct g m_X15_number d 0 0 [] [.ref 492, .int x1] (q_hp (t, r, 0, 529, 539, (q_pE ext), (q_pR rx), L) I E) (fun o h' => o = .inl (some (.int r0.1)) ∧ h' = q_hp (t, r, 0, 529, 539, (q_pE ext), (q_pR rx), L) (q_ws I [(529, r0.2.1), (533, r0.2.2)]) (q_ws E [])) := by
  rw [f_X15_number] at hf
  refine q_Ct_of ok_X15_number (Nat.le_of_ble_eq_true rfl) ?_ _ rfl rfl
  change q_J g m_X15_number d 0 0 _ [] _ 0 0 (q_kc (t, r, 0, 529, 539, (q_pE ext), (q_pR rx), L) I E 0 [some (.ref 492), some (.int x1), none] [] [] [])
  refine q_blk 2 [] (c' := q_kc (t, r, 0, 529, 539, (q_pE ext), (q_pR rx), L) I E 2 [some (.ref 492), some (.int x1), none] [.int x1, .ref 492] [] []) ok_X15_number rfl q_cn ?_
  obtain ⟨r1, hr1, hf⟩ := q_bd hf
  refine q_kV (M2 := m_X15_numberAt) (As := [.int x1]) (b := 492) (v2 := some (.int r1)) ok_X15_number ok_X15_numberAt cv_X15_numberAt (ct_X15_numberAt_492_P (d := 1) (Nat.le_refl _) hr1) rfl rfl (Or.inl rfl) rfl rfl rfl rfl (Nat.le_trans (Nat.le_of_ble_eq_true rfl) hd) (Nat.le_of_ble_eq_true rfl) (Nat.le_of_ble_eq_true rfl) (Nat.le_of_ble_eq_true rfl) (fun x hx => absurd hx List.not_mem_nil) (q_nmL0 _) (q_nmS0 _) rfl (pos' := 3) (st' := [.int r1]) (lI' := []) (lE' := []) rfl rfl rfl rfl ?_
  obtain ⟨j2, hj2, hf⟩ := q_bd hf
  refine q_blk 5 [j2] (c' := q_kc (t, r, 0, 529, 539, (q_pE ext), (q_pR rx), L) I E 8 [some (.ref 492), some (.int x1), some (.int r1)] [.int ((I 497) j2)] [] []) ok_X15_number rfl (q_cc hj2 q_cn) ?_
  refine q_ksw [9, 19, 29] ok_X15_number rfl (dp := 39) rfl (fun ix t9 ht9 hx9 => ?_) (fun hx9 => ?_) (by decide) (by decide)
  · match ix, ht9 with
    | 0, ht9 =>
      have hx9 : ((I 497) j2) = 6 := hx9
      cases ht9
      have hf := q_ip hx9 hf
      refine q_blk 8 [] (c' := q_kc (t, r, 0, 529, 539, (q_pE ext), (q_pR rx), L) I E 17 [some (.ref 492), some (.int x1), some (.int r1)] [.int (64 : Int32), .int (8 : Int32), .int x1, .ref 492] [(529, (q_up (I 529) 1 r1))] []) ok_X15_number rfl q_cn ?_
      obtain ⟨r3, hr3, hf⟩ := q_bd hf
      refine q_kV (M2 := m_X15_inRange) (As := [.int x1, .int (8 : Int32), .int (64 : Int32)]) (b := 492) (v2 := some (.int r3)) ok_X15_number ok_X15_inRange cv_X15_inRange (ct_X15_inRange_492_P (d := 2) (Nat.le_refl _) hr3) rfl rfl (Or.inl rfl) rfl rfl rfl rfl (Nat.le_trans (Nat.le_of_ble_eq_true rfl) hd) (Nat.le_of_ble_eq_true rfl) (Nat.le_of_ble_eq_true rfl) (Nat.le_of_ble_eq_true rfl) (fun x hx => absurd hx List.not_mem_nil) (q_nmL0 _) (q_nmS0 _) rfl (pos' := 18) (st' := [.int r3]) (lI' := [(529, (q_up (I 529) 1 r1))]) (lE' := []) rfl rfl rfl rfl ?_
      cases hf
      exact q_kri ok_X15_number rfl rfl rfl (Nat.le_of_ble_eq_true rfl) (Nat.le_of_ble_eq_true rfl) ⟨rfl, q_hpe (q_pdw [529, 533] rfl rfl) (q_pdw [] rfl rfl)⟩
    | 1, ht9 =>
      have hx9 : ((I 497) j2) = 7 := hx9
      cases ht9
      have hf := q_in (fun hz9 => absurd (hx9.symm.trans hz9) (by decide)) hf
      have hf := q_ip hx9 hf
      refine q_blk 8 [] (c' := q_kc (t, r, 0, 529, 539, (q_pE ext), (q_pR rx), L) I E 27 [some (.ref 492), some (.int x1), some (.int r1)] [.int (64 : Int32), .int (0 : Int32), .int x1, .ref 492] [(529, (q_up (I 529) 2 r1))] []) ok_X15_number rfl q_cn ?_
      obtain ⟨r4, hr4, hf⟩ := q_bd hf
      refine q_kV (M2 := m_X15_inRange) (As := [.int x1, .int (0 : Int32), .int (64 : Int32)]) (b := 492) (v2 := some (.int r4)) ok_X15_number ok_X15_inRange cv_X15_inRange (ct_X15_inRange_492_P (d := 2) (Nat.le_refl _) hr4) rfl rfl (Or.inl rfl) rfl rfl rfl rfl (Nat.le_trans (Nat.le_of_ble_eq_true rfl) hd) (Nat.le_of_ble_eq_true rfl) (Nat.le_of_ble_eq_true rfl) (Nat.le_of_ble_eq_true rfl) (fun x hx => absurd hx List.not_mem_nil) (q_nmL0 _) (q_nmS0 _) rfl (pos' := 28) (st' := [.int r4]) (lI' := [(529, (q_up (I 529) 2 r1))]) (lE' := []) rfl rfl rfl rfl ?_
      cases hf
      exact q_kri ok_X15_number rfl rfl rfl (Nat.le_of_ble_eq_true rfl) (Nat.le_of_ble_eq_true rfl) ⟨rfl, q_hpe (q_pdw [529, 533] rfl rfl) (q_pdw [] rfl rfl)⟩
    | 2, ht9 =>
      have hx9 : ((I 497) j2) = 8 := hx9
      cases ht9
      have hf := q_in (fun hz9 => absurd (hx9.symm.trans hz9) (by decide)) hf
      have hf := q_in (fun hz9 => absurd (hx9.symm.trans hz9) (by decide)) hf
      have hf := q_ip hx9 hf
      refine q_blk 8 [] (c' := q_kc (t, r, 0, 529, 539, (q_pE ext), (q_pR rx), L) I E 37 [some (.ref 492), some (.int x1), some (.int r1)] [.int (5 : Int32), .int (0 : Int32), .int x1, .ref 492] [(529, (q_up (I 529) 3 r1))] []) ok_X15_number rfl q_cn ?_
      obtain ⟨r5, hr5, hf⟩ := q_bd hf
      refine q_kV (M2 := m_X15_inRange) (As := [.int x1, .int (0 : Int32), .int (5 : Int32)]) (b := 492) (v2 := some (.int r5)) ok_X15_number ok_X15_inRange cv_X15_inRange (ct_X15_inRange_492_P (d := 2) (Nat.le_refl _) hr5) rfl rfl (Or.inl rfl) rfl rfl rfl rfl (Nat.le_trans (Nat.le_of_ble_eq_true rfl) hd) (Nat.le_of_ble_eq_true rfl) (Nat.le_of_ble_eq_true rfl) (Nat.le_of_ble_eq_true rfl) (fun x hx => absurd hx List.not_mem_nil) (q_nmL0 _) (q_nmS0 _) rfl (pos' := 38) (st' := [.int r5]) (lI' := [(529, (q_up (I 529) 3 r1))]) (lE' := []) rfl rfl rfl rfl ?_
      cases hf
      exact q_kri ok_X15_number rfl rfl rfl (Nat.le_of_ble_eq_true rfl) (Nat.le_of_ble_eq_true rfl) ⟨rfl, q_hpe (q_pdw [529, 533] rfl rfl) (q_pdw [] rfl rfl)⟩
    | z9 + 3, ht9 => cases ht9
  · have hf := q_in (hx9 0 (by decide)) hf
    have hf := q_in (hx9 1 (by decide)) hf
    have hf := q_in (hx9 2 (by decide)) hf
    obtain ⟨j6, hj6, hf⟩ := q_bd hf
    refine q_blk 14 [j6] (c' := q_kc (t, r, 0, 529, 539, (q_pE ext), (q_pR rx), L) I E 53 [some (.ref 492), some (.int x1), some (.int r1)] [.int (3 : Int32), .int (0 : Int32), .int x1, .ref 492] [(533, (q_up (I 533) j6 r1))] []) ok_X15_number rfl (q_cc hj6 q_cn) ?_
    obtain ⟨r7, hr7, hf⟩ := q_bd hf
    refine q_kV (M2 := m_X15_inRange) (As := [.int x1, .int (0 : Int32), .int (3 : Int32)]) (b := 492) (v2 := some (.int r7)) ok_X15_number ok_X15_inRange cv_X15_inRange (ct_X15_inRange_492_P (d := 2) (Nat.le_refl _) hr7) rfl rfl (Or.inl rfl) rfl rfl rfl rfl (Nat.le_trans (Nat.le_of_ble_eq_true rfl) hd) (Nat.le_of_ble_eq_true rfl) (Nat.le_of_ble_eq_true rfl) (Nat.le_of_ble_eq_true rfl) (fun x hx => absurd hx List.not_mem_nil) (q_nmL0 _) (q_nmS0 _) rfl (pos' := 54) (st' := [.int r7]) (lI' := [(533, (q_up (I 533) j6 r1))]) (lE' := []) rfl rfl rfl rfl ?_
    cases hf
    exact q_kri ok_X15_number rfl rfl rfl (Nat.le_of_ble_eq_true rfl) (Nat.le_of_ble_eq_true rfl) ⟨rfl, q_hpe (q_pdw [529, 533] rfl rfl) (q_pdw [] rfl rfl)⟩
set_option maxHeartbeats 4000000 in
theorem ct_X15_errorOf_492_P {g : q_G} {t : Nat} {r : Nat} {ext : Nat → q_Sh} {rx : Nat → Nat → Option Nat} {L : Nat → Nat → Int64} {d : Nat} (hd : 5 ≤ d)  {I : Nat → Nat → Int32} {E : Nat → Nat → Option Nat} {x1 : Int32} {r0 : Int32 × (Nat → Int32) × (Nat → Int32) × (Nat → Int32) × (Nat → Int32) × (Nat → Int32) × (Nat → Int32)} (hf : f_X15_errorOf (I 493) (I 494) (I 495) (I 496) (I 497) (I 498) (I 529) (I 530) (I 531) (I 532) (I 533) x1 = some r0) : q_Ct g m_X15_errorOf d 0 0 [] [.ref 492, .int x1] (q_hp (t, r, 0, 529, 539, (q_pE ext), (q_pR rx), L) I E) (fun o h' => o = .inl (some (.int r0.1)) ∧ h' = q_hp (t, r, 0, 529, 539, (q_pE ext), (q_pR rx), L) (q_ws I [(498, r0.2.1), (529, r0.2.2.1), (530, r0.2.2.2.1), (531, r0.2.2.2.2.1), (532, r0.2.2.2.2.2.1), (533, r0.2.2.2.2.2.2)]) (q_ws E [])) := by
  rw [f_X15_errorOf] at hf
  refine q_Ct_of ok_X15_errorOf (Nat.le_of_ble_eq_true rfl) ?_ _ rfl rfl
  change q_J g m_X15_errorOf d 0 0 _ [] _ 0 0 (q_kc (t, r, 0, 529, 539, (q_pE ext), (q_pR rx), L) I E 0 [some (.ref 492), some (.int x1)] [] [] [])
  obtain ⟨j1, hj1, hf⟩ := q_bd hf
  refine q_blk 4 [j1] (c' := q_kc (t, r, 0, 529, 539, (q_pE ext), (q_pR rx), L) I E 4 [some (.ref 492), some (.int x1)] [.int ((I 497) j1)] [] []) ok_X15_errorOf rfl (q_cc hj1 q_cn) ?_
  refine q_ksw [5, 7, 11, 18, 18, 22] ok_X15_errorOf rfl (dp := 27) rfl (fun ix t9 ht9 hx9 => ?_) (fun hx9 => ?_) (by decide) (by decide)
  · match ix, ht9 with
    | 0, ht9 =>
      have hx9 : ((I 497) j1) = 0 := hx9
      cases ht9
      have hf := q_ip hx9 hf
      refine q_blk 1 [] (c' := q_kc (t, r, 0, 529, 539, (q_pE ext), (q_pR rx), L) I E 6 [some (.ref 492), some (.int x1)] [.int (0 : Int32)] [] []) ok_X15_errorOf rfl q_cn ?_
      cases hf
      exact q_kri ok_X15_errorOf rfl rfl rfl (Nat.le_of_ble_eq_true rfl) (Nat.le_of_ble_eq_true rfl) ⟨rfl, q_hpe (q_pdw [498, 529, 530, 531, 532, 533] rfl rfl) (q_pdw [] rfl rfl)⟩
    | 1, ht9 =>
      have hx9 : ((I 497) j1) = 1 := hx9
      cases ht9
      have hf := q_in (fun hz9 => absurd (hx9.symm.trans hz9) (by decide)) hf
      have hf := q_ip hx9 hf
      refine q_blk 2 [] (c' := q_kc (t, r, 0, 529, 539, (q_pE ext), (q_pR rx), L) I E 9 [some (.ref 492), some (.int x1)] [.int x1, .ref 492] [] []) ok_X15_errorOf rfl q_cn ?_
      obtain ⟨r2, hr2, hf⟩ := q_bd hf
      refine q_kV (M2 := m_X15_newHook) (As := [.int x1]) (b := 492) (v2 := some (.int r2.1)) ok_X15_errorOf ok_X15_newHook cv_X15_newHook (ct_X15_newHook_492_P (d := 4) (Nat.le_refl _) hr2) rfl rfl (Or.inl rfl) rfl rfl rfl rfl (Nat.le_trans (Nat.le_of_ble_eq_true rfl) hd) (Nat.le_of_ble_eq_true rfl) (Nat.le_of_ble_eq_true rfl) (Nat.le_of_ble_eq_true rfl) (fun x hx => absurd hx List.not_mem_nil) (q_nmL0 _) (q_nmS0 _) rfl (pos' := 10) (st' := [.int r2.1]) (lI' := [(529, r2.2)]) (lE' := []) rfl rfl (q_mgw rfl rfl) rfl ?_
      cases hf
      exact q_kri ok_X15_errorOf rfl rfl rfl (Nat.le_of_ble_eq_true rfl) (Nat.le_of_ble_eq_true rfl) ⟨rfl, q_hpe (q_pdw [498, 529, 530, 531, 532, 533] rfl rfl) (q_pdw [] rfl rfl)⟩
    | 2, ht9 =>
      have hx9 : ((I 497) j1) = 2 := hx9
      cases ht9
      have hf := q_in (fun hz9 => absurd (hx9.symm.trans hz9) (by decide)) hf
      have hf := q_in (fun hz9 => absurd (hx9.symm.trans hz9) (by decide)) hf
      have hf := q_ip hx9 hf
      obtain ⟨j3, hj3, hf⟩ := q_bd hf
      refine q_blk 5 [j3] (c' := q_kc (t, r, 0, 529, 539, (q_pE ext), (q_pR rx), L) I E 16 [some (.ref 492), some (.int x1)] [.int ((I 494) j3), .ref 492] [] []) ok_X15_errorOf rfl (q_cc hj3 q_cn) ?_
      obtain ⟨r4, hr4, hf⟩ := q_bd hf
      refine q_kV (M2 := m_X15_newStep) (As := [.int ((I 494) j3)]) (b := 492) (v2 := some (.int r4.1)) ok_X15_errorOf ok_X15_newStep cv_X15_newStep (ct_X15_newStep_492_P (d := 1) (Nat.le_refl _) hr4) rfl rfl (Or.inl rfl) rfl rfl rfl rfl (Nat.le_trans (Nat.le_of_ble_eq_true rfl) hd) (Nat.le_of_ble_eq_true rfl) (Nat.le_of_ble_eq_true rfl) (Nat.le_of_ble_eq_true rfl) (fun x hx => absurd hx List.not_mem_nil) (q_nmL0 _) (q_nmS0 _) rfl (pos' := 17) (st' := [.int r4.1]) (lI' := [(529, r4.2.1), (530, r4.2.2)]) (lE' := []) rfl rfl (q_mgw rfl rfl) rfl ?_
      cases hf
      exact q_kri ok_X15_errorOf rfl rfl rfl (Nat.le_of_ble_eq_true rfl) (Nat.le_of_ble_eq_true rfl) ⟨rfl, q_hpe (q_pdw [498, 529, 530, 531, 532, 533] rfl rfl) (q_pdw [] rfl rfl)⟩
    | 3, ht9 =>
      have hx9 : ((I 497) j1) = 3 := hx9
      cases ht9
      have hf := q_in (fun hz9 => absurd (hx9.symm.trans hz9) (by decide)) hf
      have hf := q_in (fun hz9 => absurd (hx9.symm.trans hz9) (by decide)) hf
      have hf := q_in (fun hz9 => absurd (hx9.symm.trans hz9) (by decide)) hf
      have hf := q_ip hx9 hf
      refine q_blk 2 [] (c' := q_kc (t, r, 0, 529, 539, (q_pE ext), (q_pR rx), L) I E 20 [some (.ref 492), some (.int x1)] [.int x1, .ref 492] [] []) ok_X15_errorOf rfl q_cn ?_
      obtain ⟨r5, hr5, hf⟩ := q_bd hf
      refine q_kV (M2 := m_X15_ofStep) (As := [.int x1]) (b := 492) (v2 := some (.int r5.1)) ok_X15_errorOf ok_X15_ofStep cv_X15_ofStep (ct_X15_ofStep_492_P (d := 4) (Nat.le_refl _) hr5) rfl rfl (Or.inl rfl) rfl rfl rfl rfl (Nat.le_trans (Nat.le_of_ble_eq_true rfl) hd) (Nat.le_of_ble_eq_true rfl) (Nat.le_of_ble_eq_true rfl) (Nat.le_of_ble_eq_true rfl) (fun x hx => absurd hx List.not_mem_nil) (q_nmL0 _) (q_nmS0 _) rfl (pos' := 21) (st' := [.int r5.1]) (lI' := [(498, r5.2.1), (531, r5.2.2.1), (532, r5.2.2.2)]) (lE' := []) rfl rfl (q_mgw rfl rfl) rfl ?_
      cases hf
      exact q_kri ok_X15_errorOf rfl rfl rfl (Nat.le_of_ble_eq_true rfl) (Nat.le_of_ble_eq_true rfl) ⟨rfl, q_hpe (q_pdw [498, 529, 530, 531, 532, 533] rfl rfl) (q_pdw [] rfl rfl)⟩
    | 4, ht9 =>
      have hx9 : ((I 497) j1) = 4 := hx9
      cases ht9
      have hf := q_in (fun hz9 => absurd (hx9.symm.trans hz9) (by decide)) hf
      have hf := q_in (fun hz9 => absurd (hx9.symm.trans hz9) (by decide)) hf
      have hf := q_in (fun hz9 => absurd (hx9.symm.trans hz9) (by decide)) hf
      have hf := q_in (fun hz9 => absurd (hx9.symm.trans hz9) (by decide)) hf
      have hf := q_ip hx9 hf
      refine q_blk 2 [] (c' := q_kc (t, r, 0, 529, 539, (q_pE ext), (q_pR rx), L) I E 20 [some (.ref 492), some (.int x1)] [.int x1, .ref 492] [] []) ok_X15_errorOf rfl q_cn ?_
      obtain ⟨r6, hr6, hf⟩ := q_bd hf
      refine q_kV (M2 := m_X15_ofStep) (As := [.int x1]) (b := 492) (v2 := some (.int r6.1)) ok_X15_errorOf ok_X15_ofStep cv_X15_ofStep (ct_X15_ofStep_492_P (d := 4) (Nat.le_refl _) hr6) rfl rfl (Or.inl rfl) rfl rfl rfl rfl (Nat.le_trans (Nat.le_of_ble_eq_true rfl) hd) (Nat.le_of_ble_eq_true rfl) (Nat.le_of_ble_eq_true rfl) (Nat.le_of_ble_eq_true rfl) (fun x hx => absurd hx List.not_mem_nil) (q_nmL0 _) (q_nmS0 _) rfl (pos' := 21) (st' := [.int r6.1]) (lI' := [(498, r6.2.1), (531, r6.2.2.1), (532, r6.2.2.2)]) (lE' := []) rfl rfl (q_mgw rfl rfl) rfl ?_
      cases hf
      exact q_kri ok_X15_errorOf rfl rfl rfl (Nat.le_of_ble_eq_true rfl) (Nat.le_of_ble_eq_true rfl) ⟨rfl, q_hpe (q_pdw [498, 529, 530, 531, 532, 533] rfl rfl) (q_pdw [] rfl rfl)⟩
    | 5, ht9 =>
      have hx9 : ((I 497) j1) = 5 := hx9
      cases ht9
      have hf := q_in (fun hz9 => absurd (hx9.symm.trans hz9) (by decide)) hf
      have hf := q_in (fun hz9 => absurd (hx9.symm.trans hz9) (by decide)) hf
      have hf := q_in (fun hz9 => absurd (hx9.symm.trans hz9) (by decide)) hf
      have hf := q_in (fun hz9 => absurd (hx9.symm.trans hz9) (by decide)) hf
      have hf := q_in (fun hz9 => absurd (hx9.symm.trans hz9) (by decide)) hf
      have hf := q_ip hx9 hf
      refine q_blk 3 [] (c' := q_kc (t, r, 0, 529, 539, (q_pE ext), (q_pR rx), L) I E 25 [some (.ref 492), some (.int x1)] [.int (1 : Int32), .int x1, .ref 492] [] []) ok_X15_errorOf rfl q_cn ?_
      obtain ⟨r7, hr7, hf⟩ := q_bd hf
      refine q_kV (M2 := m_X15_look) (As := [.int x1, .int (1 : Int32)]) (b := 492) (v2 := some (.int r7.1)) ok_X15_errorOf ok_X15_look cv_X15_look (ct_X15_look_492_P (d := 3) (Nat.le_refl _) hr7) rfl rfl (Or.inl rfl) rfl rfl rfl rfl (Nat.le_trans (Nat.le_of_ble_eq_true rfl) hd) (Nat.le_of_ble_eq_true rfl) (Nat.le_of_ble_eq_true rfl) (Nat.le_of_ble_eq_true rfl) (fun x hx => absurd hx List.not_mem_nil) (q_nmL0 _) (q_nmS0 _) rfl (pos' := 26) (st' := [.int r7.1]) (lI' := [(498, r7.2)]) (lE' := []) rfl rfl (q_mgw rfl rfl) rfl ?_
      cases hf
      exact q_kri ok_X15_errorOf rfl rfl rfl (Nat.le_of_ble_eq_true rfl) (Nat.le_of_ble_eq_true rfl) ⟨rfl, q_hpe (q_pdw [498, 529, 530, 531, 532, 533] rfl rfl) (q_pdw [] rfl rfl)⟩
    | z9 + 6, ht9 => cases ht9
  · have hf := q_in (hx9 0 (by decide)) hf
    have hf := q_in (hx9 1 (by decide)) hf
    have hf := q_in (hx9 2 (by decide)) hf
    have hf := q_in (hx9 3 (by decide)) hf
    have hf := q_in (hx9 4 (by decide)) hf
    have hf := q_in (hx9 5 (by decide)) hf
    refine q_blk 2 [] (c' := q_kc (t, r, 0, 529, 539, (q_pE ext), (q_pR rx), L) I E 29 [some (.ref 492), some (.int x1)] [.int x1, .ref 492] [] []) ok_X15_errorOf rfl q_cn ?_
    obtain ⟨r8, hr8, hf⟩ := q_bd hf
    refine q_kV (M2 := m_X15_number) (As := [.int x1]) (b := 492) (v2 := some (.int r8.1)) ok_X15_errorOf ok_X15_number cv_X15_number (ct_X15_number_492_P (d := 3) (Nat.le_refl _) hr8) rfl rfl (Or.inl rfl) rfl rfl rfl rfl (Nat.le_trans (Nat.le_of_ble_eq_true rfl) hd) (Nat.le_of_ble_eq_true rfl) (Nat.le_of_ble_eq_true rfl) (Nat.le_of_ble_eq_true rfl) (fun x hx => absurd hx List.not_mem_nil) (q_nmL0 _) (q_nmS0 _) rfl (pos' := 30) (st' := [.int r8.1]) (lI' := [(529, r8.2.1), (533, r8.2.2)]) (lE' := []) rfl rfl (q_mgw rfl rfl) rfl ?_
    cases hf
    exact q_kri ok_X15_errorOf rfl rfl rfl (Nat.le_of_ble_eq_true rfl) (Nat.le_of_ble_eq_true rfl) ⟨rfl, q_hpe (q_pdw [498, 529, 530, 531, 532, 533] rfl rfl) (q_pdw [] rfl rfl)⟩
