set_option maxHeartbeats 4000000 in
theorem ct_X15_trim_492 {g : q_G} {t : Nat} {r : Nat} {z : Nat} {N : Nat} {ext : Nat → q_Sh} {rx : Nat → Nat → Option Nat} {L : Nat → Nat → Int64} {d : Nat} (hd : 2 ≤ d)  {I : Nat → Nat → Int32} {E : Nat → Nat → Option Nat} {x1 : Int32} {r0 : Int32 × (Nat → Int32)} (hf : f_X15_trim (I 492) x1 = some r0) : q_Ct g m_X15_trim d 0 0 [] [.ref 492, .int x1] (q_hp (t, r, 1, z, N, ext, rx, L) I E) (fun o h' => o = .inl (some (.int r0.1)) ∧ h' = q_hp (t, r, 1, z, N, ext, rx, L) (q_ws I [(492, r0.2)]) (q_ws E [])) := by
  rw [f_X15_trim] at hf
  refine q_Ct_of ok_X15_trim (Nat.le_of_ble_eq_true rfl) ?_ _ rfl rfl
  change q_J g m_X15_trim d 0 0 _ [] _ 0 0 (q_kc (t, r, 1, z, N, ext, rx, L) I E 0 [some (.ref 492), some (.int x1)] [] [] [])
  refine q_blk 7 [] (c' := q_kc (t, r, 1, z, N, ext, rx, L) I E 7 [some (.ref 492), some (.int x1)] [.int ((q_up (I 492) 0 (0 : Int32)) 2), .int (0 : Int32), .int x1] [(492, (q_up (I 492) 0 (0 : Int32)))] []) ok_X15_trim rfl q_cn ?_
  obtain ⟨r1, hr1, hf⟩ := q_bd hf
  refine q_kS (M2 := m_X15_isIn) (As := [.int x1, .int (0 : Int32), .int ((q_up (I 492) 0 (0 : Int32)) 2)]) (v2 := some (.int (q_bz r1))) ok_X15_trim ok_X15_isIn cs_X15_isIn (ct_X15_isIn (d := 1) (Nat.le_refl _) hr1) rfl rfl (Or.inl rfl) (Nat.le_trans (Nat.le_of_ble_eq_true rfl) hd) (Nat.le_of_ble_eq_true rfl) (Nat.le_of_ble_eq_true rfl) (Nat.le_of_ble_eq_true rfl) (fun x hx => absurd hx List.not_mem_nil) (q_nmL0 _) (q_nmS0 _) rfl (pos' := 8) (st' := [.int (q_bz r1)]) (lI' := [(492, (q_up (I 492) 0 (0 : Int32)))]) (lE' := []) rfl rfl rfl rfl ?_
  refine q_blf 0 [] (a := q_kc (t, r, 1, z, N, ext, rx, L) I E 13 [some (.ref 492), some (.int x1)] [] [(492, (q_up (I 492) 0 (0 : Int32)))] []) (b := q_kc (t, r, 1, z, N, ext, rx, L) I E 9 [some (.ref 492), some (.int x1)] [] [(492, (q_up (I 492) 0 (0 : Int32)))] []) (P := ¬ (q_bz r1) = 0) ok_X15_trim rfl q_cn (fun h2 => ?_) (fun h2 => ?_)
  · have hf := q_ip h2 hf
    refine q_blk 4 [] (c' := q_kc (t, r, 1, z, N, ext, rx, L) I E 17 [some (.ref 492), some (.int x1)] [.int x1] [(492, (q_up (q_up (I 492) 0 (0 : Int32)) 2 x1))] []) ok_X15_trim rfl q_cn ?_
    cases hf
    exact q_kri ok_X15_trim rfl rfl rfl (Nat.le_of_ble_eq_true rfl) (Nat.le_of_ble_eq_true rfl) ⟨rfl, q_hpe (q_pdw [492] rfl rfl) (q_pdw [] rfl rfl)⟩
  · have hf := q_in h2 hf
    refine q_blk 2 [] (c' := q_kc (t, r, 1, z, N, ext, rx, L) I E 11 [some (.ref 492), some (.int x1)] [.int (1 : Int32), .ref 492] [(492, (q_up (I 492) 0 (0 : Int32)))] []) ok_X15_trim rfl q_cn ?_
    obtain ⟨r3, hr3, hf⟩ := q_bd hf
    refine q_kV (M2 := m_X15_no) (As := [.int (1 : Int32)]) (b := 492) (v2 := some (.int r3.1)) ok_X15_trim ok_X15_no cv_X15_no (ct_X15_no_492 (d := 1) (Nat.le_refl _) hr3) rfl rfl (Or.inl rfl) rfl rfl rfl rfl (Nat.le_trans (Nat.le_of_ble_eq_true rfl) hd) (Nat.le_of_ble_eq_true rfl) (Nat.le_of_ble_eq_true rfl) (Nat.le_of_ble_eq_true rfl) (fun x hx => absurd hx List.not_mem_nil) (q_nmL0 _) (q_nmS0 _) rfl (pos' := 12) (st' := [.int r3.1]) (lI' := [(492, r3.2)]) (lE' := []) rfl rfl (q_mgw rfl rfl) rfl ?_
    cases hf
    exact q_kri ok_X15_trim rfl rfl rfl (Nat.le_of_ble_eq_true rfl) (Nat.le_of_ble_eq_true rfl) ⟨rfl, q_hpe (q_pdw [492] rfl rfl) (q_pdw [] rfl rfl)⟩
set_option maxHeartbeats 4000000 in
theorem ct_X15_ok_492 {g : q_G} {t : Nat} {r : Nat} {z : Nat} {N : Nat} {ext : Nat → q_Sh} {rx : Nat → Nat → Option Nat} {L : Nat → Nat → Int64} {d : Nat} (hd : 1 ≤ d)  {I : Nat → Nat → Int32} {E : Nat → Nat → Option Nat} {x1 : Int32} {r0 : Int32 × (Nat → Int32)} (hf : f_X15_ok (I 492) x1 = some r0) : q_Ct g m_X15_ok d 0 0 [] [.ref 492, .int x1] (q_hp (t, r, 1, z, N, ext, rx, L) I E) (fun o h' => o = .inl (some (.int r0.1)) ∧ h' = q_hp (t, r, 1, z, N, ext, rx, L) (q_ws I [(492, r0.2)]) (q_ws E [])) := by
  rw [f_X15_ok] at hf
  refine q_Ct_of ok_X15_ok (Nat.le_of_ble_eq_true rfl) ?_ _ rfl rfl
  change q_J g m_X15_ok d 0 0 _ [] _ 0 0 (q_kc (t, r, 1, z, N, ext, rx, L) I E 0 [some (.ref 492), some (.int x1)] [] [] [])
  refine q_blk 4 [] (c' := q_kc (t, r, 1, z, N, ext, rx, L) I E 4 [some (.ref 492), some (.int x1)] [.int x1] [(492, (q_up (I 492) 0 (0 : Int32)))] []) ok_X15_ok rfl q_cn ?_
  cases hf
  exact q_kri ok_X15_ok rfl rfl rfl (Nat.le_of_ble_eq_true rfl) (Nat.le_of_ble_eq_true rfl) ⟨rfl, q_hpe (q_pdw [492] rfl rfl) (q_pdw [] rfl rfl)⟩
set_option maxHeartbeats 4000000 in
theorem ct_X15_errorAt_492 {g : q_G} {t : Nat} {r : Nat} {z : Nat} {N : Nat} {ext : Nat → q_Sh} {rx : Nat → Nat → Option Nat} {L : Nat → Nat → Int64} {d : Nat} (hd : 2 ≤ d)  {I : Nat → Nat → Int32} {E : Nat → Nat → Option Nat} {r0 : Int32 × (Nat → Int32)} (hf : f_X15_errorAt (I 492) = some r0) : q_Ct g m_X15_errorAt d 0 0 [] [.ref 492] (q_hp (t, r, 1, z, N, ext, rx, L) I E) (fun o h' => o = .inl (some (.int r0.1)) ∧ h' = q_hp (t, r, 1, z, N, ext, rx, L) (q_ws I [(492, r0.2)]) (q_ws E [])) := by
  rw [f_X15_errorAt] at hf
  refine q_Ct_of ok_X15_errorAt (Nat.le_of_ble_eq_true rfl) ?_ _ rfl rfl
  change q_J g m_X15_errorAt d 0 0 _ [] _ 0 0 (q_kc (t, r, 1, z, N, ext, rx, L) I E 0 [some (.ref 492)] [] [] [])
  refine q_blk 3 [] (c' := q_kc (t, r, 1, z, N, ext, rx, L) I E 3 [some (.ref 492)] [.int ((I 492) 3), .ref 492] [] []) ok_X15_errorAt rfl q_cn ?_
  obtain ⟨r1, hr1, hf⟩ := q_bd hf
  refine q_kV (M2 := m_X15_ok) (As := [.int ((I 492) 3)]) (b := 492) (v2 := some (.int r1.1)) ok_X15_errorAt ok_X15_ok cv_X15_ok (ct_X15_ok_492 (d := 1) (Nat.le_refl _) hr1) rfl rfl (Or.inl rfl) rfl rfl rfl rfl (Nat.le_trans (Nat.le_of_ble_eq_true rfl) hd) (Nat.le_of_ble_eq_true rfl) (Nat.le_of_ble_eq_true rfl) (Nat.le_of_ble_eq_true rfl) (fun x hx => absurd hx List.not_mem_nil) (q_nmL0 _) (q_nmS0 _) rfl (pos' := 4) (st' := [.int r1.1]) (lI' := [(492, r1.2)]) (lE' := []) rfl rfl (q_mgw rfl rfl) rfl ?_
  cases hf
  exact q_kri ok_X15_errorAt rfl rfl rfl (Nat.le_of_ble_eq_true rfl) (Nat.le_of_ble_eq_true rfl) ⟨rfl, q_hpe (q_pdw [492] rfl rfl) (q_pdw [] rfl rfl)⟩
set_option maxHeartbeats 4000000 in
theorem ct_X15_hooks_492 {g : q_G} {t : Nat} {r : Nat} {z : Nat} {N : Nat} {ext : Nat → q_Sh} {rx : Nat → Nat → Option Nat} {L : Nat → Nat → Int64} {d : Nat} (hd : 2 ≤ d)  {I : Nat → Nat → Int32} {E : Nat → Nat → Option Nat} {r0 : Int32 × (Nat → Int32)} (hf : f_X15_hooks (I 492) (I 499) = some r0) : q_Ct g m_X15_hooks d 0 0 [] [.ref 492] (q_hp (t, r, 1, z, N, ext, rx, L) I E) (fun o h' => o = .inl (some (.int r0.1)) ∧ h' = q_hp (t, r, 1, z, N, ext, rx, L) (q_ws I [(492, r0.2)]) (q_ws E [])) := by
  rw [f_X15_hooks] at hf
  refine q_Ct_of ok_X15_hooks (Nat.le_of_ble_eq_true rfl) ?_ _ rfl rfl
  change q_J g m_X15_hooks d 0 0 _ [] _ 0 0 (q_kc (t, r, 1, z, N, ext, rx, L) I E 0 [some (.ref 492)] [] [] [])
  refine q_blk 4 [] (c' := q_kc (t, r, 1, z, N, ext, rx, L) I E 4 [some (.ref 492)] [.int ((I 499) 0), .ref 492] [] []) ok_X15_hooks rfl q_cn ?_
  obtain ⟨r1, hr1, hf⟩ := q_bd hf
  refine q_kV (M2 := m_X15_ok) (As := [.int ((I 499) 0)]) (b := 492) (v2 := some (.int r1.1)) ok_X15_hooks ok_X15_ok cv_X15_ok (ct_X15_ok_492 (d := 1) (Nat.le_refl _) hr1) rfl rfl (Or.inl rfl) rfl rfl rfl rfl (Nat.le_trans (Nat.le_of_ble_eq_true rfl) hd) (Nat.le_of_ble_eq_true rfl) (Nat.le_of_ble_eq_true rfl) (Nat.le_of_ble_eq_true rfl) (fun x hx => absurd hx List.not_mem_nil) (q_nmL0 _) (q_nmS0 _) rfl (pos' := 5) (st' := [.int r1.1]) (lI' := [(492, r1.2)]) (lE' := []) rfl rfl (q_mgw rfl rfl) rfl ?_
  cases hf
  exact q_kri ok_X15_hooks rfl rfl rfl (Nat.le_of_ble_eq_true rfl) (Nat.le_of_ble_eq_true rfl) ⟨rfl, q_hpe (q_pdw [492] rfl rfl) (q_pdw [] rfl rfl)⟩
set_option maxHeartbeats 4000000 in
theorem ct_X15_steps_492 {g : q_G} {t : Nat} {r : Nat} {z : Nat} {N : Nat} {ext : Nat → q_Sh} {rx : Nat → Nat → Option Nat} {L : Nat → Nat → Int64} {d : Nat} (hd : 2 ≤ d)  {I : Nat → Nat → Int32} {E : Nat → Nat → Option Nat} {r0 : Int32 × (Nat → Int32)} (hf : f_X15_steps (I 492) (I 499) = some r0) : q_Ct g m_X15_steps d 0 0 [] [.ref 492] (q_hp (t, r, 1, z, N, ext, rx, L) I E) (fun o h' => o = .inl (some (.int r0.1)) ∧ h' = q_hp (t, r, 1, z, N, ext, rx, L) (q_ws I [(492, r0.2)]) (q_ws E [])) := by
  rw [f_X15_steps] at hf
  refine q_Ct_of ok_X15_steps (Nat.le_of_ble_eq_true rfl) ?_ _ rfl rfl
  change q_J g m_X15_steps d 0 0 _ [] _ 0 0 (q_kc (t, r, 1, z, N, ext, rx, L) I E 0 [some (.ref 492)] [] [] [])
  refine q_blk 4 [] (c' := q_kc (t, r, 1, z, N, ext, rx, L) I E 4 [some (.ref 492)] [.int ((I 499) 4), .ref 492] [] []) ok_X15_steps rfl q_cn ?_
  obtain ⟨r1, hr1, hf⟩ := q_bd hf
  refine q_kV (M2 := m_X15_ok) (As := [.int ((I 499) 4)]) (b := 492) (v2 := some (.int r1.1)) ok_X15_steps ok_X15_ok cv_X15_ok (ct_X15_ok_492 (d := 1) (Nat.le_refl _) hr1) rfl rfl (Or.inl rfl) rfl rfl rfl rfl (Nat.le_trans (Nat.le_of_ble_eq_true rfl) hd) (Nat.le_of_ble_eq_true rfl) (Nat.le_of_ble_eq_true rfl) (Nat.le_of_ble_eq_true rfl) (fun x hx => absurd hx List.not_mem_nil) (q_nmL0 _) (q_nmS0 _) rfl (pos' := 5) (st' := [.int r1.1]) (lI' := [(492, r1.2)]) (lE' := []) rfl rfl (q_mgw rfl rfl) rfl ?_
  cases hf
  exact q_kri ok_X15_steps rfl rfl rfl (Nat.le_of_ble_eq_true rfl) (Nat.le_of_ble_eq_true rfl) ⟨rfl, q_hpe (q_pdw [492] rfl rfl) (q_pdw [] rfl rfl)⟩
set_option maxHeartbeats 4000000 in
theorem ct_X15_placesOfHalf_492 {g : q_G} {t : Nat} {r : Nat} {z : Nat} {N : Nat} {ext : Nat → q_Sh} {rx : Nat → Nat → Option Nat} {L : Nat → Nat → Int64} {d : Nat} (hd : 2 ≤ d)  {I : Nat → Nat → Int32} {E : Nat → Nat → Option Nat} {r0 : Int32 × (Nat → Int32)} (hf : f_X15_placesOfHalf (I 492) (I 499) = some r0) : q_Ct g m_X15_placesOfHalf d 0 0 [] [.ref 492] (q_hp (t, r, 1, z, N, ext, rx, L) I E) (fun o h' => o = .inl (some (.int r0.1)) ∧ h' = q_hp (t, r, 1, z, N, ext, rx, L) (q_ws I [(492, r0.2)]) (q_ws E [])) := by
  rw [f_X15_placesOfHalf] at hf
  refine q_Ct_of ok_X15_placesOfHalf (Nat.le_of_ble_eq_true rfl) ?_ _ rfl rfl
  change q_J g m_X15_placesOfHalf d 0 0 _ [] _ 0 0 (q_kc (t, r, 1, z, N, ext, rx, L) I E 0 [some (.ref 492)] [] [] [])
  refine q_blk 4 [] (c' := q_kc (t, r, 1, z, N, ext, rx, L) I E 4 [some (.ref 492)] [.int ((I 499) 1), .ref 492] [] []) ok_X15_placesOfHalf rfl q_cn ?_
  obtain ⟨r1, hr1, hf⟩ := q_bd hf
  refine q_kV (M2 := m_X15_ok) (As := [.int ((I 499) 1)]) (b := 492) (v2 := some (.int r1.1)) ok_X15_placesOfHalf ok_X15_ok cv_X15_ok (ct_X15_ok_492 (d := 1) (Nat.le_refl _) hr1) rfl rfl (Or.inl rfl) rfl rfl rfl rfl (Nat.le_trans (Nat.le_of_ble_eq_true rfl) hd) (Nat.le_of_ble_eq_true rfl) (Nat.le_of_ble_eq_true rfl) (Nat.le_of_ble_eq_true rfl) (fun x hx => absurd hx List.not_mem_nil) (q_nmL0 _) (q_nmS0 _) rfl (pos' := 5) (st' := [.int r1.1]) (lI' := [(492, r1.2)]) (lE' := []) rfl rfl (q_mgw rfl rfl) rfl ?_
  cases hf
  exact q_kri ok_X15_placesOfHalf rfl rfl rfl (Nat.le_of_ble_eq_true rfl) (Nat.le_of_ble_eq_true rfl) ⟨rfl, q_hpe (q_pdw [492] rfl rfl) (q_pdw [] rfl rfl)⟩
set_option maxHeartbeats 4000000 in
theorem ct_X15_stepsGoneBy_492 {g : q_G} {t : Nat} {r : Nat} {z : Nat} {N : Nat} {ext : Nat → q_Sh} {rx : Nat → Nat → Option Nat} {L : Nat → Nat → Int64} {d : Nat} (hd : 2 ≤ d)  {I : Nat → Nat → Int32} {E : Nat → Nat → Option Nat} {r0 : Int32 × (Nat → Int32)} (hf : f_X15_stepsGoneBy (I 492) (I 512) = some r0) : q_Ct g m_X15_stepsGoneBy d 0 0 [] [.ref 492] (q_hp (t, r, 1, z, N, ext, rx, L) I E) (fun o h' => o = .inl (some (.int r0.1)) ∧ h' = q_hp (t, r, 1, z, N, ext, rx, L) (q_ws I [(492, r0.2)]) (q_ws E [])) := by
  rw [f_X15_stepsGoneBy] at hf
  refine q_Ct_of ok_X15_stepsGoneBy (Nat.le_of_ble_eq_true rfl) ?_ _ rfl rfl
  change q_J g m_X15_stepsGoneBy d 0 0 _ [] _ 0 0 (q_kc (t, r, 1, z, N, ext, rx, L) I E 0 [some (.ref 492)] [] [] [])
  refine q_blk 4 [] (c' := q_kc (t, r, 1, z, N, ext, rx, L) I E 4 [some (.ref 492)] [.int ((I 512) 0), .ref 492] [] []) ok_X15_stepsGoneBy rfl q_cn ?_
  obtain ⟨r1, hr1, hf⟩ := q_bd hf
  refine q_kV (M2 := m_X15_ok) (As := [.int ((I 512) 0)]) (b := 492) (v2 := some (.int r1.1)) ok_X15_stepsGoneBy ok_X15_ok cv_X15_ok (ct_X15_ok_492 (d := 1) (Nat.le_refl _) hr1) rfl rfl (Or.inl rfl) rfl rfl rfl rfl (Nat.le_trans (Nat.le_of_ble_eq_true rfl) hd) (Nat.le_of_ble_eq_true rfl) (Nat.le_of_ble_eq_true rfl) (Nat.le_of_ble_eq_true rfl) (fun x hx => absurd hx List.not_mem_nil) (q_nmL0 _) (q_nmS0 _) rfl (pos' := 5) (st' := [.int r1.1]) (lI' := [(492, r1.2)]) (lE' := []) rfl rfl (q_mgw rfl rfl) rfl ?_
  cases hf
  exact q_kri ok_X15_stepsGoneBy rfl rfl rfl (Nat.le_of_ble_eq_true rfl) (Nat.le_of_ble_eq_true rfl) ⟨rfl, q_hpe (q_pdw [492] rfl rfl) (q_pdw [] rfl rfl)⟩
set_option maxHeartbeats 4000000 in
theorem ct_X15_stepsRefused_492 {g : q_G} {t : Nat} {r : Nat} {z : Nat} {N : Nat} {ext : Nat → q_Sh} {rx : Nat → Nat → Option Nat} {L : Nat → Nat → Int64} {d : Nat} (hd : 2 ≤ d)  {I : Nat → Nat → Int32} {E : Nat → Nat → Option Nat} {r0 : Int32 × (Nat → Int32)} (hf : f_X15_stepsRefused (I 492) (I 512) = some r0) : q_Ct g m_X15_stepsRefused d 0 0 [] [.ref 492] (q_hp (t, r, 1, z, N, ext, rx, L) I E) (fun o h' => o = .inl (some (.int r0.1)) ∧ h' = q_hp (t, r, 1, z, N, ext, rx, L) (q_ws I [(492, r0.2)]) (q_ws E [])) := by
  rw [f_X15_stepsRefused] at hf
  refine q_Ct_of ok_X15_stepsRefused (Nat.le_of_ble_eq_true rfl) ?_ _ rfl rfl
  change q_J g m_X15_stepsRefused d 0 0 _ [] _ 0 0 (q_kc (t, r, 1, z, N, ext, rx, L) I E 0 [some (.ref 492)] [] [] [])
  refine q_blk 4 [] (c' := q_kc (t, r, 1, z, N, ext, rx, L) I E 4 [some (.ref 492)] [.int ((I 512) 1), .ref 492] [] []) ok_X15_stepsRefused rfl q_cn ?_
  obtain ⟨r1, hr1, hf⟩ := q_bd hf
  refine q_kV (M2 := m_X15_ok) (As := [.int ((I 512) 1)]) (b := 492) (v2 := some (.int r1.1)) ok_X15_stepsRefused ok_X15_ok cv_X15_ok (ct_X15_ok_492 (d := 1) (Nat.le_refl _) hr1) rfl rfl (Or.inl rfl) rfl rfl rfl rfl (Nat.le_trans (Nat.le_of_ble_eq_true rfl) hd) (Nat.le_of_ble_eq_true rfl) (Nat.le_of_ble_eq_true rfl) (Nat.le_of_ble_eq_true rfl) (fun x hx => absurd hx List.not_mem_nil) (q_nmL0 _) (q_nmS0 _) rfl (pos' := 5) (st' := [.int r1.1]) (lI' := [(492, r1.2)]) (lE' := []) rfl rfl (q_mgw rfl rfl) rfl ?_
  cases hf
  exact q_kri ok_X15_stepsRefused rfl rfl rfl (Nat.le_of_ble_eq_true rfl) (Nat.le_of_ble_eq_true rfl) ⟨rfl, q_hpe (q_pdw [492] rfl rfl) (q_pdw [] rfl rfl)⟩
set_option maxHeartbeats 4000000 in
theorem ct_X15_workingHalf_492 {g : q_G} {t : Nat} {r : Nat} {z : Nat} {N : Nat} {ext : Nat → q_Sh} {rx : Nat → Nat → Option Nat} {L : Nat → Nat → Int64} {d : Nat} (hd : 2 ≤ d)  {I : Nat → Nat → Int32} {E : Nat → Nat → Option Nat} {r0 : Int32 × (Nat → Int32)} (hf : f_X15_workingHalf (I 492) (I 512) = some r0) : q_Ct g m_X15_workingHalf d 0 0 [] [.ref 492] (q_hp (t, r, 1, z, N, ext, rx, L) I E) (fun o h' => o = .inl (some (.int r0.1)) ∧ h' = q_hp (t, r, 1, z, N, ext, rx, L) (q_ws I [(492, r0.2)]) (q_ws E [])) := by
  rw [f_X15_workingHalf] at hf
  refine q_Ct_of ok_X15_workingHalf (Nat.le_of_ble_eq_true rfl) ?_ _ rfl rfl
  change q_J g m_X15_workingHalf d 0 0 _ [] _ 0 0 (q_kc (t, r, 1, z, N, ext, rx, L) I E 0 [some (.ref 492)] [] [] [])
  refine q_blk 4 [] (c' := q_kc (t, r, 1, z, N, ext, rx, L) I E 4 [some (.ref 492)] [.int ((I 512) 2), .ref 492] [] []) ok_X15_workingHalf rfl q_cn ?_
  obtain ⟨r1, hr1, hf⟩ := q_bd hf
  refine q_kV (M2 := m_X15_ok) (As := [.int ((I 512) 2)]) (b := 492) (v2 := some (.int r1.1)) ok_X15_workingHalf ok_X15_ok cv_X15_ok (ct_X15_ok_492 (d := 1) (Nat.le_refl _) hr1) rfl rfl (Or.inl rfl) rfl rfl rfl rfl (Nat.le_trans (Nat.le_of_ble_eq_true rfl) hd) (Nat.le_of_ble_eq_true rfl) (Nat.le_of_ble_eq_true rfl) (Nat.le_of_ble_eq_true rfl) (fun x hx => absurd hx List.not_mem_nil) (q_nmL0 _) (q_nmS0 _) rfl (pos' := 5) (st' := [.int r1.1]) (lI' := [(492, r1.2)]) (lE' := []) rfl rfl (q_mgw rfl rfl) rfl ?_
  cases hf
  exact q_kri ok_X15_workingHalf rfl rfl rfl (Nat.le_of_ble_eq_true rfl) (Nat.le_of_ble_eq_true rfl) ⟨rfl, q_hpe (q_pdw [492] rfl rfl) (q_pdw [] rfl rfl)⟩
set_option maxHeartbeats 4000000 in
theorem lp_X14_used_L4_512 {g : q_G} {d mc ms : Nat} {h0 : q_H} {Q : (Option Value ⊕ String) → q_H → Prop} {k n : Nat} {t : Nat} {r : Nat} {m : Nat} {z : Nat} {N : Nat} {ext : Nat → q_Sh} {rx : Nat → Nat → Option Nat} {L : Nat → Nat → Int64} (hd : 1 ≤ d) (hk : k ≤ mc) (hn : n ≤ ms)  {v1 : Int32} : ∀ (fu : Nat) {I : Nat → Nat → Int32} {E : Nat → Nat → Option Nat} {v2 : Int32} {v3 : Int32} {r0 : Int32} (hf : f_X14_used_L4 (I 514) (I 516) v1 fu v2 v3 = some r0) (hK0 : q_J g m_X14_used d mc ms h0 [] Q k n (q_kc (t, r, m, z, N, ext, rx, L) I E 24 [none, none, some (.int r0), none] [] [] [])), q_J g m_X14_used d mc ms h0 [] Q k n (4, [some (.ref 512), some (.int v1), some (.int v2), some (.int v3)], [], q_hp (t, r, m, z, N, ext, rx, L) I E) := by
  intro fu
  induction fu with
  | zero =>
    intro I E v2 v3 r0 hf hK0
    rw [f_X14_used_L4] at hf
    cases hf
  | succ fu ih =>
    intro I E v2 v3 r0 hf hK0
    rw [f_X14_used_L4] at hf
    change q_J g m_X14_used d mc ms h0 [] Q k n (q_kc (t, r, m, z, N, ext, rx, L) I E 4 [some (.ref 512), some (.int v1), some (.int v2), some (.int v3)] [] [] [])
    refine q_blf 2 [] (a := q_kc (t, r, m, z, N, ext, rx, L) I E 24 [some (.ref 512), some (.int v1), some (.int v2), some (.int v3)] [] [] []) (b := q_kc (t, r, m, z, N, ext, rx, L) I E 7 [some (.ref 512), some (.int v1), some (.int v2), some (.int v3)] [] [] []) (P := (136 : Int32) ≤ v3) ok_X14_used rfl q_cn (fun h1 => ?_) (fun h1 => ?_)
    · have hf := q_ip h1 hf
      refine q_less (ls' := [none, none, some (.int v2), none]) (q_sb1 (q_sb1 (q_sb2 (q_sb1 q_sb0)))) ?_
      cases hf
      exact q_Jpad (q_pdw [] rfl rfl) (q_pdw [] rfl rfl) hK0
    · have hf := q_in h1 hf
      obtain ⟨j2, hj2, hf⟩ := q_bd hf
      refine q_blf 6 [j2] (a := q_kc (t, r, m, z, N, ext, rx, L) I E 19 [some (.ref 512), some (.int v1), some (.int v2), some (.int v3)] [.int v2] [] []) (b := q_kc (t, r, m, z, N, ext, rx, L) I E 14 [some (.ref 512), some (.int v1), some (.int v2), some (.int v3)] [.int v2] [] []) (P := ¬ ((I 514) j2) = v1) ok_X14_used rfl (q_cc hj2 q_cn) (fun h3 => ?_) (fun h3 => ?_)
      · have hf := q_ip h3 hf
        refine q_blk 5 [] (c' := q_kc (t, r, m, z, N, ext, rx, L) I E 4 [some (.ref 512), some (.int v1), some (.int (v2 + (0 : Int32))), some (.int (v3 + 1))] [] [] []) ok_X14_used rfl q_cn ?_
        exact ih (I := q_ws I []) (E := q_ws E []) hf (q_Jmrg (q_mgw rfl rfl) (q_mgw rfl rfl) hK0)
      · have hf := q_in h3 hf
        obtain ⟨j4, hj4, hf⟩ := q_bd hf
        refine q_blk 9 [j4] (c' := q_kc (t, r, m, z, N, ext, rx, L) I E 4 [some (.ref 512), some (.int v1), some (.int (v2 + ((I 516) j4))), some (.int (v3 + 1))] [] [] []) ok_X14_used rfl (q_cc hj4 q_cn) ?_
        exact ih (I := q_ws I []) (E := q_ws E []) hf (q_Jmrg (q_mgw rfl rfl) (q_mgw rfl rfl) hK0)
set_option maxHeartbeats 4000000 in
theorem ct_X14_used_512 {g : q_G} {t : Nat} {r : Nat} {m : Nat} {z : Nat} {N : Nat} {ext : Nat → q_Sh} {rx : Nat → Nat → Option Nat} {L : Nat → Nat → Int64} {d : Nat} (hd : 1 ≤ d)  {I : Nat → Nat → Int32} {E : Nat → Nat → Option Nat} {x1 : Int32} {r0 : Int32} (hf : f_X14_used (I 514) (I 516) x1 = some r0) : q_Ct g m_X14_used d 0 0 [] [.ref 512, .int x1] (q_hp (t, r, m, z, N, ext, rx, L) I E) (fun o h' => o = .inl (some (.int r0)) ∧ h' = q_hp (t, r, m, z, N, ext, rx, L) (q_ws I []) (q_ws E [])) := by
  rw [f_X14_used] at hf
  refine q_Ct_of ok_X14_used (Nat.le_of_ble_eq_true rfl) ?_ _ rfl rfl
  change q_J g m_X14_used d 0 0 _ [] _ 0 0 (q_kc (t, r, m, z, N, ext, rx, L) I E 0 [some (.ref 512), some (.int x1), none, none] [] [] [])
  refine q_blk 4 [] (c' := q_kc (t, r, m, z, N, ext, rx, L) I E 4 [some (.ref 512), some (.int x1), some (.int (0 : Int32)), some (.int (0 : Int32))] [] [] []) ok_X14_used rfl q_cn ?_
  obtain ⟨r5, hr5, hf⟩ := q_bd hf
  refine lp_X14_used_L4_512 (I := q_ws I []) (E := q_ws E []) hd (Nat.le_of_ble_eq_true rfl) (Nat.le_of_ble_eq_true rfl) 4096 hr5 ?_
  refine q_Jmrg (lI' := []) (lE' := []) (q_mgw rfl rfl) (q_mgw rfl rfl) ?_
  refine q_blk 1 [] (c' := q_kc (t, r, m, z, N, ext, rx, L) I E 25 [none, none, some (.int r5), none] [.int r5] [] []) ok_X14_used rfl q_cn ?_
  cases hf
  exact q_kri ok_X14_used rfl rfl rfl (Nat.le_of_ble_eq_true rfl) (Nat.le_of_ble_eq_true rfl) ⟨rfl, q_hpe (q_pdw [] rfl rfl) (q_pdw [] rfl rfl)⟩
set_option maxHeartbeats 4000000 in
theorem ct_X15_usedPlaces_492 {g : q_G} {t : Nat} {r : Nat} {z : Nat} {N : Nat} {ext : Nat → q_Sh} {rx : Nat → Nat → Option Nat} {L : Nat → Nat → Int64} {d : Nat} (hd : 2 ≤ d)  {I : Nat → Nat → Int32} {E : Nat → Nat → Option Nat} {r0 : Int32 × (Nat → Int32)} (hf : f_X15_usedPlaces (I 492) (I 514) (I 516) = some r0) : q_Ct g m_X15_usedPlaces d 0 0 [] [.ref 492] (q_hp (t, r, 1, z, N, ext, rx, L) I E) (fun o h' => o = .inl (some (.int r0.1)) ∧ h' = q_hp (t, r, 1, z, N, ext, rx, L) (q_ws I [(492, r0.2)]) (q_ws E [])) := by
  rw [f_X15_usedPlaces] at hf
  refine q_Ct_of ok_X15_usedPlaces (Nat.le_of_ble_eq_true rfl) ?_ _ rfl rfl
  change q_J g m_X15_usedPlaces d 0 0 _ [] _ 0 0 (q_kc (t, r, 1, z, N, ext, rx, L) I E 0 [some (.ref 492)] [] [] [])
  refine q_blk 4 [] (c' := q_kc (t, r, 1, z, N, ext, rx, L) I E 4 [some (.ref 492)] [.int (1 : Int32), .ref 512, .ref 492] [] []) ok_X15_usedPlaces rfl q_cn ?_
  obtain ⟨r1, hr1, hf⟩ := q_bd hf
  refine q_kV (M2 := m_X14_used) (As := [.int (1 : Int32)]) (b := 512) (v2 := some (.int r1)) ok_X15_usedPlaces ok_X14_used cv_X14_used (ct_X14_used_512 (d := 1) (Nat.le_refl _) hr1) rfl rfl (Or.inl rfl) rfl rfl rfl rfl (Nat.le_trans (Nat.le_of_ble_eq_true rfl) hd) (Nat.le_of_ble_eq_true rfl) (Nat.le_of_ble_eq_true rfl) (Nat.le_of_ble_eq_true rfl) (fun x hx => absurd hx List.not_mem_nil) (q_nmL0 _) (q_nmS0 _) rfl (pos' := 5) (st' := [.int r1, .ref 492]) (lI' := []) (lE' := []) rfl rfl rfl rfl ?_
  obtain ⟨r2, hr2, hf⟩ := q_bd hf
  refine q_kV (M2 := m_X15_ok) (As := [.int r1]) (b := 492) (v2 := some (.int r2.1)) ok_X15_usedPlaces ok_X15_ok cv_X15_ok (ct_X15_ok_492 (d := 1) (Nat.le_refl _) hr2) rfl rfl (Or.inl rfl) rfl rfl rfl rfl (Nat.le_trans (Nat.le_of_ble_eq_true rfl) hd) (Nat.le_of_ble_eq_true rfl) (Nat.le_of_ble_eq_true rfl) (Nat.le_of_ble_eq_true rfl) (fun x hx => absurd hx List.not_mem_nil) (q_nmL0 _) (q_nmS0 _) rfl (pos' := 6) (st' := [.int r2.1]) (lI' := [(492, r2.2)]) (lE' := []) rfl rfl (q_mgw rfl rfl) rfl ?_
  cases hf
  exact q_kri ok_X15_usedPlaces rfl rfl rfl (Nat.le_of_ble_eq_true rfl) (Nat.le_of_ble_eq_true rfl) ⟨rfl, q_hpe (q_pdw [492] rfl rfl) (q_pdw [] rfl rfl)⟩
set_option maxHeartbeats 4000000 in
theorem ct_X15_usedInLoft_492 {g : q_G} {t : Nat} {r : Nat} {z : Nat} {N : Nat} {ext : Nat → q_Sh} {rx : Nat → Nat → Option Nat} {L : Nat → Nat → Int64} {d : Nat} (hd : 2 ≤ d)  {I : Nat → Nat → Int32} {E : Nat → Nat → Option Nat} {r0 : Int32 × (Nat → Int32)} (hf : f_X15_usedInLoft (I 492) (I 514) (I 516) = some r0) : q_Ct g m_X15_usedInLoft d 0 0 [] [.ref 492] (q_hp (t, r, 1, z, N, ext, rx, L) I E) (fun o h' => o = .inl (some (.int r0.1)) ∧ h' = q_hp (t, r, 1, z, N, ext, rx, L) (q_ws I [(492, r0.2)]) (q_ws E [])) := by
  rw [f_X15_usedInLoft] at hf
  refine q_Ct_of ok_X15_usedInLoft (Nat.le_of_ble_eq_true rfl) ?_ _ rfl rfl
  change q_J g m_X15_usedInLoft d 0 0 _ [] _ 0 0 (q_kc (t, r, 1, z, N, ext, rx, L) I E 0 [some (.ref 492)] [] [] [])
  refine q_blk 4 [] (c' := q_kc (t, r, 1, z, N, ext, rx, L) I E 4 [some (.ref 492)] [.int (2 : Int32), .ref 512, .ref 492] [] []) ok_X15_usedInLoft rfl q_cn ?_
  obtain ⟨r1, hr1, hf⟩ := q_bd hf
  refine q_kV (M2 := m_X14_used) (As := [.int (2 : Int32)]) (b := 512) (v2 := some (.int r1)) ok_X15_usedInLoft ok_X14_used cv_X14_used (ct_X14_used_512 (d := 1) (Nat.le_refl _) hr1) rfl rfl (Or.inl rfl) rfl rfl rfl rfl (Nat.le_trans (Nat.le_of_ble_eq_true rfl) hd) (Nat.le_of_ble_eq_true rfl) (Nat.le_of_ble_eq_true rfl) (Nat.le_of_ble_eq_true rfl) (fun x hx => absurd hx List.not_mem_nil) (q_nmL0 _) (q_nmS0 _) rfl (pos' := 5) (st' := [.int r1, .ref 492]) (lI' := []) (lE' := []) rfl rfl rfl rfl ?_
  obtain ⟨r2, hr2, hf⟩ := q_bd hf
  refine q_kV (M2 := m_X15_ok) (As := [.int r1]) (b := 492) (v2 := some (.int r2.1)) ok_X15_usedInLoft ok_X15_ok cv_X15_ok (ct_X15_ok_492 (d := 1) (Nat.le_refl _) hr2) rfl rfl (Or.inl rfl) rfl rfl rfl rfl (Nat.le_trans (Nat.le_of_ble_eq_true rfl) hd) (Nat.le_of_ble_eq_true rfl) (Nat.le_of_ble_eq_true rfl) (Nat.le_of_ble_eq_true rfl) (fun x hx => absurd hx List.not_mem_nil) (q_nmL0 _) (q_nmS0 _) rfl (pos' := 6) (st' := [.int r2.1]) (lI' := [(492, r2.2)]) (lE' := []) rfl rfl (q_mgw rfl rfl) rfl ?_
  cases hf
  exact q_kri ok_X15_usedInLoft rfl rfl rfl (Nat.le_of_ble_eq_true rfl) (Nat.le_of_ble_eq_true rfl) ⟨rfl, q_hpe (q_pdw [492] rfl rfl) (q_pdw [] rfl rfl)⟩
set_option maxHeartbeats 4000000 in
theorem lp_X14_at_L2_512 {g : q_G} {d mc ms : Nat} {h0 : q_H} {Q : (Option Value ⊕ String) → q_H → Prop} {k n : Nat} {t : Nat} {r : Nat} {m : Nat} {z : Nat} {N : Nat} {ext : Nat → q_Sh} {rx : Nat → Nat → Option Nat} {L : Nat → Nat → Int64} (hd : 1 ≤ d) (hk : k ≤ mc) (hn : n ≤ ms)  {v1 : Int32} {v2 : Int32} : ∀ (fu : Nat) {I : Nat → Nat → Int32} {E : Nat → Nat → Option Nat} {v3 : Int32} {r0 : Nat × Int32} (hf : f_X14_at_L2 (I 514) (I 515) (I 516) v1 v2 fu v3 = some r0) (hK0 : r0.1 = 0 → q_J g m_X14_at d mc ms h0 [] Q k n (q_kc (t, r, m, z, N, ext, rx, L) I E 32 [none, none, none, none] [] [] [])) (hK1 : r0.1 = 1 → q_J g m_X14_at d mc ms h0 [] Q k n (q_kc (t, r, m, z, N, ext, rx, L) I E 28 [none, none, none, some (.int r0.2)] [] [] [])), q_J g m_X14_at d mc ms h0 [] Q k n (2, [some (.ref 512), some (.int v1), some (.int v2), some (.int v3)], [], q_hp (t, r, m, z, N, ext, rx, L) I E) := by
  intro fu
  induction fu with
  | zero =>
    intro I E v3 r0 hf hK0 hK1
    rw [f_X14_at_L2] at hf
    cases hf
  | succ fu ih =>
    intro I E v3 r0 hf hK0 hK1
    rw [f_X14_at_L2] at hf
    change q_J g m_X14_at d mc ms h0 [] Q k n (q_kc (t, r, m, z, N, ext, rx, L) I E 2 [some (.ref 512), some (.int v1), some (.int v2), some (.int v3)] [] [] [])
    refine q_blf 2 [] (a := q_kc (t, r, m, z, N, ext, rx, L) I E 32 [some (.ref 512), some (.int v1), some (.int v2), some (.int v3)] [] [] []) (b := q_kc (t, r, m, z, N, ext, rx, L) I E 5 [some (.ref 512), some (.int v1), some (.int v2), some (.int v3)] [] [] []) (P := (136 : Int32) ≤ v3) ok_X14_at rfl q_cn (fun h1 => ?_) (fun h1 => ?_)
    · have hf := q_ip h1 hf
      refine q_less (ls' := [none, none, none, none]) (q_sb1 (q_sb1 (q_sb1 (q_sb1 q_sb0)))) ?_
      cases hf
      exact q_Jpad (q_pdw [] rfl rfl) (q_pdw [] rfl rfl) (hK0 rfl)
    · have hf := q_in h1 hf
      obtain ⟨j2, hj2, hf⟩ := q_bd hf
      refine q_blf 5 [j2] (a := q_kc (t, r, m, z, N, ext, rx, L) I E 30 [some (.ref 512), some (.int v1), some (.int v2), some (.int v3)] [] [] []) (b := q_kc (t, r, m, z, N, ext, rx, L) I E 11 [some (.ref 512), some (.int v1), some (.int v2), some (.int v3)] [] [] []) (P := ¬ ((I 514) j2) = v1) ok_X14_at rfl (q_cc hj2 q_cn) (fun h3 => ?_) (fun h3 => ?_)
      · have hf := q_ip h3 hf
        refine q_blk 2 [] (c' := q_kc (t, r, m, z, N, ext, rx, L) I E 2 [some (.ref 512), some (.int v1), some (.int v2), some (.int (v3 + 1))] [] [] []) ok_X14_at rfl q_cn ?_
        exact ih (I := q_ws I []) (E := q_ws E []) hf (fun hz => q_Jmrg (q_mgw rfl rfl) (q_mgw rfl rfl) (hK0 hz)) (fun hz => q_Jmrg (q_mgw rfl rfl) (q_mgw rfl rfl) (hK1 hz))
      · have hf := q_in h3 hf
        obtain ⟨j4, hj4, hf⟩ := q_bd hf
        refine q_blf 5 [j4] (a := q_kc (t, r, m, z, N, ext, rx, L) I E 30 [some (.ref 512), some (.int v1), some (.int v2), some (.int v3)] [] [] []) (b := q_kc (t, r, m, z, N, ext, rx, L) I E 17 [some (.ref 512), some (.int v1), some (.int v2), some (.int v3)] [] [] []) (P := v2 < ((I 515) j4)) ok_X14_at rfl (q_cc hj4 q_cn) (fun h5 => ?_) (fun h5 => ?_)
        · have hf := q_ip h5 hf
          refine q_blk 2 [] (c' := q_kc (t, r, m, z, N, ext, rx, L) I E 2 [some (.ref 512), some (.int v1), some (.int v2), some (.int (v3 + 1))] [] [] []) ok_X14_at rfl q_cn ?_
          exact ih (I := q_ws I []) (E := q_ws E []) hf (fun hz => q_Jmrg (q_mgw rfl rfl) (q_mgw rfl rfl) (hK0 hz)) (fun hz => q_Jmrg (q_mgw rfl rfl) (q_mgw rfl rfl) (hK1 hz))
        · have hf := q_in h5 hf
          obtain ⟨j6, hj6, hf⟩ := q_bd hf
          obtain ⟨j7, hj7, hf⟩ := q_bd hf
          refine q_blf 10 [j6, j7] (a := q_kc (t, r, m, z, N, ext, rx, L) I E 30 [some (.ref 512), some (.int v1), some (.int v2), some (.int v3)] [] [] []) (b := q_kc (t, r, m, z, N, ext, rx, L) I E 28 [some (.ref 512), some (.int v1), some (.int v2), some (.int v3)] [] [] []) (P := (((I 515) j6) + ((I 516) j7)) ≤ v2) ok_X14_at rfl (q_cc hj7 (q_cc hj6 q_cn)) (fun h8 => ?_) (fun h8 => ?_)
          · have hf := q_ip h8 hf
            refine q_blk 2 [] (c' := q_kc (t, r, m, z, N, ext, rx, L) I E 2 [some (.ref 512), some (.int v1), some (.int v2), some (.int (v3 + 1))] [] [] []) ok_X14_at rfl q_cn ?_
            exact ih (I := q_ws I []) (E := q_ws E []) hf (fun hz => q_Jmrg (q_mgw rfl rfl) (q_mgw rfl rfl) (hK0 hz)) (fun hz => q_Jmrg (q_mgw rfl rfl) (q_mgw rfl rfl) (hK1 hz))
          · have hf := q_in h8 hf
            refine q_less (ls' := [none, none, none, some (.int v3)]) (q_sb1 (q_sb1 (q_sb1 (q_sb2 q_sb0)))) ?_
            cases hf
            exact q_Jpad (q_pdw [] rfl rfl) (q_pdw [] rfl rfl) (hK1 rfl)
set_option maxHeartbeats 4000000 in
theorem ct_X14_at_512 {g : q_G} {t : Nat} {r : Nat} {m : Nat} {z : Nat} {N : Nat} {ext : Nat → q_Sh} {rx : Nat → Nat → Option Nat} {L : Nat → Nat → Int64} {d : Nat} (hd : 1 ≤ d)  {I : Nat → Nat → Int32} {E : Nat → Nat → Option Nat} {x1 : Int32} {x2 : Int32} {r0 : Int32} (hf : f_X14_at (I 514) (I 515) (I 516) x1 x2 = some r0) : q_Ct g m_X14_at d 0 0 [] [.ref 512, .int x1, .int x2] (q_hp (t, r, m, z, N, ext, rx, L) I E) (fun o h' => o = .inl (some (.int r0)) ∧ h' = q_hp (t, r, m, z, N, ext, rx, L) (q_ws I []) (q_ws E [])) := by
  rw [f_X14_at] at hf
  refine q_Ct_of ok_X14_at (Nat.le_of_ble_eq_true rfl) ?_ _ rfl rfl
  change q_J g m_X14_at d 0 0 _ [] _ 0 0 (q_kc (t, r, m, z, N, ext, rx, L) I E 0 [some (.ref 512), some (.int x1), some (.int x2), none] [] [] [])
  refine q_blk 2 [] (c' := q_kc (t, r, m, z, N, ext, rx, L) I E 2 [some (.ref 512), some (.int x1), some (.int x2), some (.int (0 : Int32))] [] [] []) ok_X14_at rfl q_cn ?_
  obtain ⟨r9, hr9, hf⟩ := q_bd hf
  refine lp_X14_at_L2_512 (I := q_ws I []) (E := q_ws E []) hd (Nat.le_of_ble_eq_true rfl) (Nat.le_of_ble_eq_true rfl) 4096 hr9 ?_ ?_
  · intro hz0
    have hf := q_ip hz0 hf
    refine q_Jmrg (lI' := []) (lE' := []) (q_mgw rfl rfl) (q_mgw rfl rfl) ?_
    refine q_blk 1 [] (c' := q_kc (t, r, m, z, N, ext, rx, L) I E 33 [none, none, none, none] [.int (-1 : Int32)] [] []) ok_X14_at rfl q_cn ?_
    cases hf
    exact q_kri ok_X14_at rfl rfl rfl (Nat.le_of_ble_eq_true rfl) (Nat.le_of_ble_eq_true rfl) ⟨rfl, q_hpe (q_pdw [] rfl rfl) (q_pdw [] rfl rfl)⟩
  · intro hz1
    have hf := q_in (fun h9 => absurd (hz1.symm.trans h9) (by decide)) hf
    refine q_Jmrg (lI' := []) (lE' := []) (q_mgw rfl rfl) (q_mgw rfl rfl) ?_
    refine q_blk 1 [] (c' := q_kc (t, r, m, z, N, ext, rx, L) I E 29 [none, none, none, some (.int r9.2)] [.int r9.2] [] []) ok_X14_at rfl q_cn ?_
    cases hf
    exact q_kri ok_X14_at rfl rfl rfl (Nat.le_of_ble_eq_true rfl) (Nat.le_of_ble_eq_true rfl) ⟨rfl, q_hpe (q_pdw [] rfl rfl) (q_pdw [] rfl rfl)⟩
set_option maxHeartbeats 4000000 in
theorem lp_X14_emptyFrom_L2_512 {g : q_G} {d mc ms : Nat} {h0 : q_H} {Q : (Option Value ⊕ String) → q_H → Prop} {k n : Nat} {t : Nat} {r : Nat} {z : Nat} {N : Nat} {ext : Nat → q_Sh} {rx : Nat → Nat → Option Nat} {L : Nat → Nat → Int64} (hd : 2 ≤ d) (hk : k ≤ mc) (hn : n ≤ ms)  {v1 : Int32} : ∀ (fu : Nat) {I : Nat → Nat → Int32} {E : Nat → Nat → Option Nat} {v2 : Int32} {r0 : Int32} (hf : f_X14_emptyFrom_L2 (I 499) (I 514) (I 515) (I 516) v1 fu v2 = some r0) (hK0 : q_J g m_X14_emptyFrom d mc ms h0 [] Q k n (q_kc (t, r, 1, z, N, ext, rx, L) I E 20 [none, none, some (.int r0)] [] [] [])), q_J g m_X14_emptyFrom d mc ms h0 [] Q k n (2, [some (.ref 512), some (.int v1), some (.int v2)], [], q_hp (t, r, 1, z, N, ext, rx, L) I E) := by
  intro fu
  induction fu with
  | zero =>
    intro I E v2 r0 hf hK0
    rw [f_X14_emptyFrom_L2] at hf
    cases hf
  | succ fu ih =>
    intro I E v2 r0 hf hK0
    rw [f_X14_emptyFrom_L2] at hf
    change q_J g m_X14_emptyFrom d mc ms h0 [] Q k n (q_kc (t, r, 1, z, N, ext, rx, L) I E 2 [some (.ref 512), some (.int v1), some (.int v2)] [] [] [])
    refine q_blf 7 [] (a := q_kc (t, r, 1, z, N, ext, rx, L) I E 20 [some (.ref 512), some (.int v1), some (.int v2)] [] [] []) (b := q_kc (t, r, 1, z, N, ext, rx, L) I E 10 [some (.ref 512), some (.int v1), some (.int v2)] [] [] []) (P := ((I 499) 2) ≤ (v1 + v2)) ok_X14_emptyFrom rfl q_cn (fun h1 => ?_) (fun h1 => ?_)
    · have hf := q_ip h1 hf
      refine q_less (ls' := [none, none, some (.int v2)]) (q_sb1 (q_sb1 (q_sb2 q_sb0))) ?_
      cases hf
      exact q_Jpad (q_pdw [] rfl rfl) (q_pdw [] rfl rfl) hK0
    · have hf := q_in h1 hf
      refine q_blk 5 [] (c' := q_kc (t, r, 1, z, N, ext, rx, L) I E 15 [some (.ref 512), some (.int v1), some (.int v2)] [.int (v1 + v2), .int (2 : Int32), .ref 512] [] []) ok_X14_emptyFrom rfl q_cn ?_
      obtain ⟨r2, hr2, hf⟩ := q_bd hf
      refine q_kV (M2 := m_X14_at) (As := [.int (2 : Int32), .int (v1 + v2)]) (b := 512) (v2 := some (.int r2)) ok_X14_emptyFrom ok_X14_at cv_X14_at (ct_X14_at_512 (d := 1) (Nat.le_refl _) hr2) rfl rfl (Or.inl rfl) rfl rfl rfl rfl (Nat.le_trans (Nat.le_of_ble_eq_true rfl) hd) hk hn (Nat.le_of_ble_eq_true rfl) (fun x hx => absurd hx List.not_mem_nil) (q_nmL0 _) (q_nmS0 _) rfl (pos' := 16) (st' := [.int r2]) (lI' := []) (lE' := []) rfl rfl rfl rfl ?_
      refine q_blf 1 [] (a := q_kc (t, r, 1, z, N, ext, rx, L) I E 20 [some (.ref 512), some (.int v1), some (.int v2)] [] [] []) (b := q_kc (t, r, 1, z, N, ext, rx, L) I E 18 [some (.ref 512), some (.int v1), some (.int v2)] [] [] []) (P := ¬ r2 = (-1 : Int32)) ok_X14_emptyFrom rfl q_cn (fun h3 => ?_) (fun h3 => ?_)
      · have hf := q_ip h3 hf
        refine q_less (ls' := [none, none, some (.int v2)]) (q_sb1 (q_sb1 (q_sb2 q_sb0))) ?_
        cases hf
        exact q_Jpad (q_pdw [] rfl rfl) (q_pdw [] rfl rfl) hK0
      · have hf := q_in h3 hf
        refine q_blk 2 [] (c' := q_kc (t, r, 1, z, N, ext, rx, L) I E 2 [some (.ref 512), some (.int v1), some (.int (v2 + 1))] [] [] []) ok_X14_emptyFrom rfl q_cn ?_
        exact ih (I := q_ws I []) (E := q_ws E []) hf (q_Jmrg (q_mgw rfl rfl) (q_mgw rfl rfl) hK0)
set_option maxHeartbeats 4000000 in
theorem ct_X14_emptyFrom_512 {g : q_G} {t : Nat} {r : Nat} {z : Nat} {N : Nat} {ext : Nat → q_Sh} {rx : Nat → Nat → Option Nat} {L : Nat → Nat → Int64} {d : Nat} (hd : 2 ≤ d)  {I : Nat → Nat → Int32} {E : Nat → Nat → Option Nat} {x1 : Int32} {r0 : Int32} (hf : f_X14_emptyFrom (I 499) (I 514) (I 515) (I 516) x1 = some r0) : q_Ct g m_X14_emptyFrom d 0 0 [] [.ref 512, .int x1] (q_hp (t, r, 1, z, N, ext, rx, L) I E) (fun o h' => o = .inl (some (.int r0)) ∧ h' = q_hp (t, r, 1, z, N, ext, rx, L) (q_ws I []) (q_ws E [])) := by
  rw [f_X14_emptyFrom] at hf
  refine q_Ct_of ok_X14_emptyFrom (Nat.le_of_ble_eq_true rfl) ?_ _ rfl rfl
  change q_J g m_X14_emptyFrom d 0 0 _ [] _ 0 0 (q_kc (t, r, 1, z, N, ext, rx, L) I E 0 [some (.ref 512), some (.int x1), none] [] [] [])
  refine q_blk 2 [] (c' := q_kc (t, r, 1, z, N, ext, rx, L) I E 2 [some (.ref 512), some (.int x1), some (.int (0 : Int32))] [] [] []) ok_X14_emptyFrom rfl q_cn ?_
  obtain ⟨r4, hr4, hf⟩ := q_bd hf
  refine lp_X14_emptyFrom_L2_512 (I := q_ws I []) (E := q_ws E []) hd (Nat.le_of_ble_eq_true rfl) (Nat.le_of_ble_eq_true rfl) 4096 hr4 ?_
  refine q_Jmrg (lI' := []) (lE' := []) (q_mgw rfl rfl) (q_mgw rfl rfl) ?_
  refine q_blk 1 [] (c' := q_kc (t, r, 1, z, N, ext, rx, L) I E 21 [none, none, some (.int r4)] [.int r4] [] []) ok_X14_emptyFrom rfl q_cn ?_
  cases hf
  exact q_kri ok_X14_emptyFrom rfl rfl rfl (Nat.le_of_ble_eq_true rfl) (Nat.le_of_ble_eq_true rfl) ⟨rfl, q_hpe (q_pdw [] rfl rfl) (q_pdw [] rfl rfl)⟩
set_option maxHeartbeats 4000000 in
theorem lp_X14_longestGap_L4_512 {g : q_G} {d mc ms : Nat} {h0 : q_H} {Q : (Option Value ⊕ String) → q_H → Prop} {k n : Nat} {t : Nat} {r : Nat} {z : Nat} {N : Nat} {ext : Nat → q_Sh} {rx : Nat → Nat → Option Nat} {L : Nat → Nat → Int64} (hd : 3 ≤ d) (hk : k ≤ mc) (hn : n ≤ ms)  : ∀ (fu : Nat) {I : Nat → Nat → Int32} {E : Nat → Nat → Option Nat} {v1 : Int32} {v2 : Int32} {r0 : Int32} (hf : f_X14_longestGap_L4 (I 499) (I 514) (I 515) (I 516) fu v1 v2 = some r0) (hK0 : q_J g m_X14_longestGap d mc ms h0 [] Q k n (q_kc (t, r, 1, z, N, ext, rx, L) I E 18 [none, some (.int r0), none] [] [] [])), q_J g m_X14_longestGap d mc ms h0 [] Q k n (4, [some (.ref 512), some (.int v1), some (.int v2)], [], q_hp (t, r, 1, z, N, ext, rx, L) I E) := by
  intro fu
  induction fu with
  | zero =>
    intro I E v1 v2 r0 hf hK0
    rw [f_X14_longestGap_L4] at hf
    cases hf
  | succ fu ih =>
    intro I E v1 v2 r0 hf hK0
    rw [f_X14_longestGap_L4] at hf
    change q_J g m_X14_longestGap d mc ms h0 [] Q k n (q_kc (t, r, 1, z, N, ext, rx, L) I E 4 [some (.ref 512), some (.int v1), some (.int v2)] [] [] [])
    refine q_blf 5 [] (a := q_kc (t, r, 1, z, N, ext, rx, L) I E 18 [some (.ref 512), some (.int v1), some (.int v2)] [] [] []) (b := q_kc (t, r, 1, z, N, ext, rx, L) I E 10 [some (.ref 512), some (.int v1), some (.int v2)] [] [] []) (P := ((I 499) 2) ≤ v2) ok_X14_longestGap rfl q_cn (fun h1 => ?_) (fun h1 => ?_)
    · have hf := q_ip h1 hf
      refine q_less (ls' := [none, some (.int v1), none]) (q_sb1 (q_sb2 (q_sb1 q_sb0))) ?_
      cases hf
      exact q_Jpad (q_pdw [] rfl rfl) (q_pdw [] rfl rfl) hK0
    · have hf := q_in h1 hf
      refine q_blk 3 [] (c' := q_kc (t, r, 1, z, N, ext, rx, L) I E 13 [some (.ref 512), some (.int v1), some (.int v2)] [.int v2, .ref 512, .int v1] [] []) ok_X14_longestGap rfl q_cn ?_
      obtain ⟨r2, hr2, hf⟩ := q_bd hf
      refine q_kV (M2 := m_X14_emptyFrom) (As := [.int v2]) (b := 512) (v2 := some (.int r2)) ok_X14_longestGap ok_X14_emptyFrom cv_X14_emptyFrom (ct_X14_emptyFrom_512 (d := 2) (Nat.le_refl _) hr2) rfl rfl (Or.inl rfl) rfl rfl rfl rfl (Nat.le_trans (Nat.le_of_ble_eq_true rfl) hd) hk hn (Nat.le_of_ble_eq_true rfl) (fun x hx => absurd hx List.not_mem_nil) (q_nmL0 _) (q_nmS0 _) rfl (pos' := 14) (st' := [.int r2, .int v1]) (lI' := []) (lE' := []) rfl rfl rfl rfl ?_
      refine q_kmx (pos' := 15) ok_X14_longestGap rfl rfl (Nat.le_trans (Nat.le_of_ble_eq_true rfl) hd) (Nat.le_of_ble_eq_true rfl) hk hn rfl ?_
      refine q_blk 3 [] (c' := q_kc (t, r, 1, z, N, ext, rx, L) I E 4 [some (.ref 512), some (.int (q_max v1 r2)), some (.int (v2 + 1))] [] [] []) ok_X14_longestGap rfl q_cn ?_
      exact ih (I := q_ws I []) (E := q_ws E []) hf (q_Jmrg (q_mgw rfl rfl) (q_mgw rfl rfl) hK0)
set_option maxHeartbeats 4000000 in
theorem ct_X14_longestGap_512 {g : q_G} {t : Nat} {r : Nat} {z : Nat} {N : Nat} {ext : Nat → q_Sh} {rx : Nat → Nat → Option Nat} {L : Nat → Nat → Int64} {d : Nat} (hd : 3 ≤ d)  {I : Nat → Nat → Int32} {E : Nat → Nat → Option Nat} {r0 : Int32} (hf : f_X14_longestGap (I 499) (I 514) (I 515) (I 516) = some r0) : q_Ct g m_X14_longestGap d 0 0 [] [.ref 512] (q_hp (t, r, 1, z, N, ext, rx, L) I E) (fun o h' => o = .inl (some (.int r0)) ∧ h' = q_hp (t, r, 1, z, N, ext, rx, L) (q_ws I []) (q_ws E [])) := by
  rw [f_X14_longestGap] at hf
  refine q_Ct_of ok_X14_longestGap (Nat.le_of_ble_eq_true rfl) ?_ _ rfl rfl
  change q_J g m_X14_longestGap d 0 0 _ [] _ 0 0 (q_kc (t, r, 1, z, N, ext, rx, L) I E 0 [some (.ref 512), none, none] [] [] [])
  refine q_blk 4 [] (c' := q_kc (t, r, 1, z, N, ext, rx, L) I E 4 [some (.ref 512), some (.int (0 : Int32)), some (.int (0 : Int32))] [] [] []) ok_X14_longestGap rfl q_cn ?_
  obtain ⟨r3, hr3, hf⟩ := q_bd hf
  refine lp_X14_longestGap_L4_512 (I := q_ws I []) (E := q_ws E []) hd (Nat.le_of_ble_eq_true rfl) (Nat.le_of_ble_eq_true rfl) 4096 hr3 ?_
  refine q_Jmrg (lI' := []) (lE' := []) (q_mgw rfl rfl) (q_mgw rfl rfl) ?_
  refine q_blk 1 [] (c' := q_kc (t, r, 1, z, N, ext, rx, L) I E 19 [none, some (.int r3), none] [.int r3] [] []) ok_X14_longestGap rfl q_cn ?_
  cases hf
  exact q_kri ok_X14_longestGap rfl rfl rfl (Nat.le_of_ble_eq_true rfl) (Nat.le_of_ble_eq_true rfl) ⟨rfl, q_hpe (q_pdw [] rfl rfl) (q_pdw [] rfl rfl)⟩
set_option maxHeartbeats 4000000 in
theorem ct_X15_longestGap_492 {g : q_G} {t : Nat} {r : Nat} {z : Nat} {N : Nat} {ext : Nat → q_Sh} {rx : Nat → Nat → Option Nat} {L : Nat → Nat → Int64} {d : Nat} (hd : 4 ≤ d)  {I : Nat → Nat → Int32} {E : Nat → Nat → Option Nat} {r0 : Int32 × (Nat → Int32)} (hf : f_X15_longestGap (I 492) (I 499) (I 514) (I 515) (I 516) = some r0) : q_Ct g m_X15_longestGap d 0 0 [] [.ref 492] (q_hp (t, r, 1, z, N, ext, rx, L) I E) (fun o h' => o = .inl (some (.int r0.1)) ∧ h' = q_hp (t, r, 1, z, N, ext, rx, L) (q_ws I [(492, r0.2)]) (q_ws E [])) := by
  rw [f_X15_longestGap] at hf
  refine q_Ct_of ok_X15_longestGap (Nat.le_of_ble_eq_true rfl) ?_ _ rfl rfl
  change q_J g m_X15_longestGap d 0 0 _ [] _ 0 0 (q_kc (t, r, 1, z, N, ext, rx, L) I E 0 [some (.ref 492)] [] [] [])
  refine q_blk 3 [] (c' := q_kc (t, r, 1, z, N, ext, rx, L) I E 3 [some (.ref 492)] [.ref 512, .ref 492] [] []) ok_X15_longestGap rfl q_cn ?_
  obtain ⟨r1, hr1, hf⟩ := q_bd hf
  refine q_kV (M2 := m_X14_longestGap) (As := []) (b := 512) (v2 := some (.int r1)) ok_X15_longestGap ok_X14_longestGap cv_X14_longestGap (ct_X14_longestGap_512 (d := 3) (Nat.le_refl _) hr1) rfl rfl (Or.inl rfl) rfl rfl rfl rfl (Nat.le_trans (Nat.le_of_ble_eq_true rfl) hd) (Nat.le_of_ble_eq_true rfl) (Nat.le_of_ble_eq_true rfl) (Nat.le_of_ble_eq_true rfl) (fun x hx => absurd hx List.not_mem_nil) (q_nmL0 _) (q_nmS0 _) rfl (pos' := 4) (st' := [.int r1, .ref 492]) (lI' := []) (lE' := []) rfl rfl rfl rfl ?_
  obtain ⟨r2, hr2, hf⟩ := q_bd hf
  refine q_kV (M2 := m_X15_ok) (As := [.int r1]) (b := 492) (v2 := some (.int r2.1)) ok_X15_longestGap ok_X15_ok cv_X15_ok (ct_X15_ok_492 (d := 1) (Nat.le_refl _) hr2) rfl rfl (Or.inl rfl) rfl rfl rfl rfl (Nat.le_trans (Nat.le_of_ble_eq_true rfl) hd) (Nat.le_of_ble_eq_true rfl) (Nat.le_of_ble_eq_true rfl) (Nat.le_of_ble_eq_true rfl) (fun x hx => absurd hx List.not_mem_nil) (q_nmL0 _) (q_nmS0 _) rfl (pos' := 5) (st' := [.int r2.1]) (lI' := [(492, r2.2)]) (lE' := []) rfl rfl (q_mgw rfl rfl) rfl ?_
  cases hf
  exact q_kri ok_X15_longestGap rfl rfl rfl (Nat.le_of_ble_eq_true rfl) (Nat.le_of_ble_eq_true rfl) ⟨rfl, q_hpe (q_pdw [492] rfl rfl) (q_pdw [] rfl rfl)⟩
set_option maxHeartbeats 4000000 in
theorem lp_X14_bales_L4_512 {g : q_G} {d mc ms : Nat} {h0 : q_H} {Q : (Option Value ⊕ String) → q_H → Prop} {k n : Nat} {t : Nat} {r : Nat} {m : Nat} {z : Nat} {N : Nat} {ext : Nat → q_Sh} {rx : Nat → Nat → Option Nat} {L : Nat → Nat → Int64} (hd : 1 ≤ d) (hk : k ≤ mc) (hn : n ≤ ms)  {v1 : Int32} : ∀ (fu : Nat) {I : Nat → Nat → Int32} {E : Nat → Nat → Option Nat} {v2 : Int32} {v3 : Int32} {r0 : Int32} (hf : f_X14_bales_L4 (I 514) v1 fu v2 v3 = some r0) (hK0 : q_J g m_X14_bales d mc ms h0 [] Q k n (q_kc (t, r, m, z, N, ext, rx, L) I E 21 [none, none, some (.int r0), none] [] [] [])), q_J g m_X14_bales d mc ms h0 [] Q k n (4, [some (.ref 512), some (.int v1), some (.int v2), some (.int v3)], [], q_hp (t, r, m, z, N, ext, rx, L) I E) := by
  intro fu
  induction fu with
  | zero =>
    intro I E v2 v3 r0 hf hK0
    rw [f_X14_bales_L4] at hf
    cases hf
  | succ fu ih =>
    intro I E v2 v3 r0 hf hK0
    rw [f_X14_bales_L4] at hf
    change q_J g m_X14_bales d mc ms h0 [] Q k n (q_kc (t, r, m, z, N, ext, rx, L) I E 4 [some (.ref 512), some (.int v1), some (.int v2), some (.int v3)] [] [] [])
    refine q_blf 2 [] (a := q_kc (t, r, m, z, N, ext, rx, L) I E 21 [some (.ref 512), some (.int v1), some (.int v2), some (.int v3)] [] [] []) (b := q_kc (t, r, m, z, N, ext, rx, L) I E 7 [some (.ref 512), some (.int v1), some (.int v2), some (.int v3)] [] [] []) (P := (136 : Int32) ≤ v3) ok_X14_bales rfl q_cn (fun h1 => ?_) (fun h1 => ?_)
    · have hf := q_ip h1 hf
      refine q_less (ls' := [none, none, some (.int v2), none]) (q_sb1 (q_sb1 (q_sb2 (q_sb1 q_sb0)))) ?_
      cases hf
      exact q_Jpad (q_pdw [] rfl rfl) (q_pdw [] rfl rfl) hK0
    · have hf := q_in h1 hf
      obtain ⟨j2, hj2, hf⟩ := q_bd hf
      refine q_blf 6 [j2] (a := q_kc (t, r, m, z, N, ext, rx, L) I E 16 [some (.ref 512), some (.int v1), some (.int v2), some (.int v3)] [.int v2] [] []) (b := q_kc (t, r, m, z, N, ext, rx, L) I E 14 [some (.ref 512), some (.int v1), some (.int v2), some (.int v3)] [.int v2] [] []) (P := ¬ ((I 514) j2) = v1) ok_X14_bales rfl (q_cc hj2 q_cn) (fun h3 => ?_) (fun h3 => ?_)
      · have hf := q_ip h3 hf
        refine q_blk 5 [] (c' := q_kc (t, r, m, z, N, ext, rx, L) I E 4 [some (.ref 512), some (.int v1), some (.int (v2 + (0 : Int32))), some (.int (v3 + 1))] [] [] []) ok_X14_bales rfl q_cn ?_
        exact ih (I := q_ws I []) (E := q_ws E []) hf (q_Jmrg (q_mgw rfl rfl) (q_mgw rfl rfl) hK0)
      · have hf := q_in h3 hf
        refine q_blk 6 [] (c' := q_kc (t, r, m, z, N, ext, rx, L) I E 4 [some (.ref 512), some (.int v1), some (.int (v2 + (1 : Int32))), some (.int (v3 + 1))] [] [] []) ok_X14_bales rfl q_cn ?_
        exact ih (I := q_ws I []) (E := q_ws E []) hf (q_Jmrg (q_mgw rfl rfl) (q_mgw rfl rfl) hK0)
set_option maxHeartbeats 4000000 in
theorem ct_X14_bales_512 {g : q_G} {t : Nat} {r : Nat} {m : Nat} {z : Nat} {N : Nat} {ext : Nat → q_Sh} {rx : Nat → Nat → Option Nat} {L : Nat → Nat → Int64} {d : Nat} (hd : 1 ≤ d)  {I : Nat → Nat → Int32} {E : Nat → Nat → Option Nat} {x1 : Int32} {r0 : Int32} (hf : f_X14_bales (I 514) x1 = some r0) : q_Ct g m_X14_bales d 0 0 [] [.ref 512, .int x1] (q_hp (t, r, m, z, N, ext, rx, L) I E) (fun o h' => o = .inl (some (.int r0)) ∧ h' = q_hp (t, r, m, z, N, ext, rx, L) (q_ws I []) (q_ws E [])) := by
  rw [f_X14_bales] at hf
  refine q_Ct_of ok_X14_bales (Nat.le_of_ble_eq_true rfl) ?_ _ rfl rfl
  change q_J g m_X14_bales d 0 0 _ [] _ 0 0 (q_kc (t, r, m, z, N, ext, rx, L) I E 0 [some (.ref 512), some (.int x1), none, none] [] [] [])
  refine q_blk 4 [] (c' := q_kc (t, r, m, z, N, ext, rx, L) I E 4 [some (.ref 512), some (.int x1), some (.int (0 : Int32)), some (.int (0 : Int32))] [] [] []) ok_X14_bales rfl q_cn ?_
  obtain ⟨r4, hr4, hf⟩ := q_bd hf
  refine lp_X14_bales_L4_512 (I := q_ws I []) (E := q_ws E []) hd (Nat.le_of_ble_eq_true rfl) (Nat.le_of_ble_eq_true rfl) 4096 hr4 ?_
  refine q_Jmrg (lI' := []) (lE' := []) (q_mgw rfl rfl) (q_mgw rfl rfl) ?_
  refine q_blk 1 [] (c' := q_kc (t, r, m, z, N, ext, rx, L) I E 22 [none, none, some (.int r4), none] [.int r4] [] []) ok_X14_bales rfl q_cn ?_
  cases hf
  exact q_kri ok_X14_bales rfl rfl rfl (Nat.le_of_ble_eq_true rfl) (Nat.le_of_ble_eq_true rfl) ⟨rfl, q_hpe (q_pdw [] rfl rfl) (q_pdw [] rfl rfl)⟩
set_option maxHeartbeats 4000000 in
theorem ct_X14_bales__512 {g : q_G} {t : Nat} {r : Nat} {m : Nat} {z : Nat} {N : Nat} {ext : Nat → q_Sh} {rx : Nat → Nat → Option Nat} {L : Nat → Nat → Int64} {d : Nat} (hd : 2 ≤ d)  {I : Nat → Nat → Int32} {E : Nat → Nat → Option Nat} {r0 : Int32} (hf : f_X14_bales_ (I 514) = some r0) : q_Ct g m_X14_bales_ d 0 0 [] [.ref 512] (q_hp (t, r, m, z, N, ext, rx, L) I E) (fun o h' => o = .inl (some (.int r0)) ∧ h' = q_hp (t, r, m, z, N, ext, rx, L) (q_ws I []) (q_ws E [])) := by
  rw [f_X14_bales_] at hf
  refine q_Ct_of ok_X14_bales_ (Nat.le_of_ble_eq_true rfl) ?_ _ rfl rfl
  change q_J g m_X14_bales_ d 0 0 _ [] _ 0 0 (q_kc (t, r, m, z, N, ext, rx, L) I E 0 [some (.ref 512)] [] [] [])
  refine q_blk 2 [] (c' := q_kc (t, r, m, z, N, ext, rx, L) I E 2 [some (.ref 512)] [.int (1 : Int32), .ref 512] [] []) ok_X14_bales_ rfl q_cn ?_
  obtain ⟨r1, hr1, hf⟩ := q_bd hf
  refine q_kV (M2 := m_X14_bales) (As := [.int (1 : Int32)]) (b := 512) (v2 := some (.int r1)) ok_X14_bales_ ok_X14_bales cv_X14_bales (ct_X14_bales_512 (d := 1) (Nat.le_refl _) hr1) rfl rfl (Or.inl rfl) rfl rfl rfl rfl (Nat.le_trans (Nat.le_of_ble_eq_true rfl) hd) (Nat.le_of_ble_eq_true rfl) (Nat.le_of_ble_eq_true rfl) (Nat.le_of_ble_eq_true rfl) (fun x hx => absurd hx List.not_mem_nil) (q_nmL0 _) (q_nmS0 _) rfl (pos' := 3) (st' := [.int r1]) (lI' := []) (lE' := []) rfl rfl rfl rfl ?_
  refine q_blk 2 [] (c' := q_kc (t, r, m, z, N, ext, rx, L) I E 5 [some (.ref 512)] [.int (2 : Int32), .ref 512, .int r1] [] []) ok_X14_bales_ rfl q_cn ?_
  obtain ⟨r2, hr2, hf⟩ := q_bd hf
  refine q_kV (M2 := m_X14_bales) (As := [.int (2 : Int32)]) (b := 512) (v2 := some (.int r2)) ok_X14_bales_ ok_X14_bales cv_X14_bales (ct_X14_bales_512 (d := 1) (Nat.le_refl _) hr2) rfl rfl (Or.inl rfl) rfl rfl rfl rfl (Nat.le_trans (Nat.le_of_ble_eq_true rfl) hd) (Nat.le_of_ble_eq_true rfl) (Nat.le_of_ble_eq_true rfl) (Nat.le_of_ble_eq_true rfl) (fun x hx => absurd hx List.not_mem_nil) (q_nmL0 _) (q_nmS0 _) rfl (pos' := 6) (st' := [.int r2, .int r1]) (lI' := []) (lE' := []) rfl rfl rfl rfl ?_
  refine q_blk 1 [] (c' := q_kc (t, r, m, z, N, ext, rx, L) I E 7 [some (.ref 512)] [.int (r1 + r2)] [] []) ok_X14_bales_ rfl q_cn ?_
  cases hf
  exact q_kri ok_X14_bales_ rfl rfl rfl (Nat.le_of_ble_eq_true rfl) (Nat.le_of_ble_eq_true rfl) ⟨rfl, q_hpe (q_pdw [] rfl rfl) (q_pdw [] rfl rfl)⟩
set_option maxHeartbeats 4000000 in
theorem ct_X15_bales_492 {g : q_G} {t : Nat} {r : Nat} {z : Nat} {N : Nat} {ext : Nat → q_Sh} {rx : Nat → Nat → Option Nat} {L : Nat → Nat → Int64} {d : Nat} (hd : 3 ≤ d)  {I : Nat → Nat → Int32} {E : Nat → Nat → Option Nat} {r0 : Int32 × (Nat → Int32)} (hf : f_X15_bales (I 492) (I 514) = some r0) : q_Ct g m_X15_bales d 0 0 [] [.ref 492] (q_hp (t, r, 1, z, N, ext, rx, L) I E) (fun o h' => o = .inl (some (.int r0.1)) ∧ h' = q_hp (t, r, 1, z, N, ext, rx, L) (q_ws I [(492, r0.2)]) (q_ws E [])) := by
  rw [f_X15_bales] at hf
  refine q_Ct_of ok_X15_bales (Nat.le_of_ble_eq_true rfl) ?_ _ rfl rfl
  change q_J g m_X15_bales d 0 0 _ [] _ 0 0 (q_kc (t, r, 1, z, N, ext, rx, L) I E 0 [some (.ref 492)] [] [] [])
  refine q_blk 3 [] (c' := q_kc (t, r, 1, z, N, ext, rx, L) I E 3 [some (.ref 492)] [.ref 512, .ref 492] [] []) ok_X15_bales rfl q_cn ?_
  obtain ⟨r1, hr1, hf⟩ := q_bd hf
  refine q_kV (M2 := m_X14_bales_) (As := []) (b := 512) (v2 := some (.int r1)) ok_X15_bales ok_X14_bales_ cv_X14_bales_ (ct_X14_bales__512 (d := 2) (Nat.le_refl _) hr1) rfl rfl (Or.inl rfl) rfl rfl rfl rfl (Nat.le_trans (Nat.le_of_ble_eq_true rfl) hd) (Nat.le_of_ble_eq_true rfl) (Nat.le_of_ble_eq_true rfl) (Nat.le_of_ble_eq_true rfl) (fun x hx => absurd hx List.not_mem_nil) (q_nmL0 _) (q_nmS0 _) rfl (pos' := 4) (st' := [.int r1, .ref 492]) (lI' := []) (lE' := []) rfl rfl rfl rfl ?_
  obtain ⟨r2, hr2, hf⟩ := q_bd hf
  refine q_kV (M2 := m_X15_ok) (As := [.int r1]) (b := 492) (v2 := some (.int r2.1)) ok_X15_bales ok_X15_ok cv_X15_ok (ct_X15_ok_492 (d := 1) (Nat.le_refl _) hr2) rfl rfl (Or.inl rfl) rfl rfl rfl rfl (Nat.le_trans (Nat.le_of_ble_eq_true rfl) hd) (Nat.le_of_ble_eq_true rfl) (Nat.le_of_ble_eq_true rfl) (Nat.le_of_ble_eq_true rfl) (fun x hx => absurd hx List.not_mem_nil) (q_nmL0 _) (q_nmS0 _) rfl (pos' := 5) (st' := [.int r2.1]) (lI' := [(492, r2.2)]) (lE' := []) rfl rfl (q_mgw rfl rfl) rfl ?_
  cases hf
  exact q_kri ok_X15_bales rfl rfl rfl (Nat.le_of_ble_eq_true rfl) (Nat.le_of_ble_eq_true rfl) ⟨rfl, q_hpe (q_pdw [492] rfl rfl) (q_pdw [] rfl rfl)⟩
set_option maxHeartbeats 4000000 in
theorem ct_X15_balesInLoft_492 {g : q_G} {t : Nat} {r : Nat} {z : Nat} {N : Nat} {ext : Nat → q_Sh} {rx : Nat → Nat → Option Nat} {L : Nat → Nat → Int64} {d : Nat} (hd : 2 ≤ d)  {I : Nat → Nat → Int32} {E : Nat → Nat → Option Nat} {r0 : Int32 × (Nat → Int32)} (hf : f_X15_balesInLoft (I 492) (I 514) = some r0) : q_Ct g m_X15_balesInLoft d 0 0 [] [.ref 492] (q_hp (t, r, 1, z, N, ext, rx, L) I E) (fun o h' => o = .inl (some (.int r0.1)) ∧ h' = q_hp (t, r, 1, z, N, ext, rx, L) (q_ws I [(492, r0.2)]) (q_ws E [])) := by
  rw [f_X15_balesInLoft] at hf
  refine q_Ct_of ok_X15_balesInLoft (Nat.le_of_ble_eq_true rfl) ?_ _ rfl rfl
  change q_J g m_X15_balesInLoft d 0 0 _ [] _ 0 0 (q_kc (t, r, 1, z, N, ext, rx, L) I E 0 [some (.ref 492)] [] [] [])
  refine q_blk 4 [] (c' := q_kc (t, r, 1, z, N, ext, rx, L) I E 4 [some (.ref 492)] [.int (2 : Int32), .ref 512, .ref 492] [] []) ok_X15_balesInLoft rfl q_cn ?_
  obtain ⟨r1, hr1, hf⟩ := q_bd hf
  refine q_kV (M2 := m_X14_bales) (As := [.int (2 : Int32)]) (b := 512) (v2 := some (.int r1)) ok_X15_balesInLoft ok_X14_bales cv_X14_bales (ct_X14_bales_512 (d := 1) (Nat.le_refl _) hr1) rfl rfl (Or.inl rfl) rfl rfl rfl rfl (Nat.le_trans (Nat.le_of_ble_eq_true rfl) hd) (Nat.le_of_ble_eq_true rfl) (Nat.le_of_ble_eq_true rfl) (Nat.le_of_ble_eq_true rfl) (fun x hx => absurd hx List.not_mem_nil) (q_nmL0 _) (q_nmS0 _) rfl (pos' := 5) (st' := [.int r1, .ref 492]) (lI' := []) (lE' := []) rfl rfl rfl rfl ?_
  obtain ⟨r2, hr2, hf⟩ := q_bd hf
  refine q_kV (M2 := m_X15_ok) (As := [.int r1]) (b := 492) (v2 := some (.int r2.1)) ok_X15_balesInLoft ok_X15_ok cv_X15_ok (ct_X15_ok_492 (d := 1) (Nat.le_refl _) hr2) rfl rfl (Or.inl rfl) rfl rfl rfl rfl (Nat.le_trans (Nat.le_of_ble_eq_true rfl) hd) (Nat.le_of_ble_eq_true rfl) (Nat.le_of_ble_eq_true rfl) (Nat.le_of_ble_eq_true rfl) (fun x hx => absurd hx List.not_mem_nil) (q_nmL0 _) (q_nmS0 _) rfl (pos' := 6) (st' := [.int r2.1]) (lI' := [(492, r2.2)]) (lE' := []) rfl rfl (q_mgw rfl rfl) rfl ?_
  cases hf
  exact q_kri ok_X15_balesInLoft rfl rfl rfl (Nat.le_of_ble_eq_true rfl) (Nat.le_of_ble_eq_true rfl) ⟨rfl, q_hpe (q_pdw [492] rfl rfl) (q_pdw [] rfl rfl)⟩
set_option maxHeartbeats 4000000 in
theorem lp_X14_forget_L6_512 {g : q_G} {d mc ms : Nat} {h0 : q_H} {Q : (Option Value ⊕ String) → q_H → Prop} {k n : Nat} {t : Nat} {r : Nat} {z : Nat} {N : Nat} {ext : Nat → q_Sh} {rx : Nat → Nat → Option Nat} {L : Nat → Nat → Int64} (hd : 1 ≤ d) (hk : k ≤ mc) (hn : n ≤ ms)  : ∀ (fu : Nat) {I : Nat → Nat → Int32} {E : Nat → Nat → Option Nat} {v1 : Int32} {r0 : (Nat → Int32)} (hf : f_X14_forget_L6 fu (I 511) v1 = some r0) (hK0 : q_J g m_X14_forget d mc ms h0 [] Q k n (q_kc (t, r, 1, z, N, ext, rx, L) I E 17 [none, none] [] [(511, r0)] [])), q_J g m_X14_forget d mc ms h0 [] Q k n (6, [some (.ref 512), some (.int v1)], [], q_hp (t, r, 1, z, N, ext, rx, L) I E) := by
  intro fu
  induction fu with
  | zero =>
    intro I E v1 r0 hf hK0
    rw [f_X14_forget_L6] at hf
    cases hf
  | succ fu ih =>
    intro I E v1 r0 hf hK0
    rw [f_X14_forget_L6] at hf
    change q_J g m_X14_forget d mc ms h0 [] Q k n (q_kc (t, r, 1, z, N, ext, rx, L) I E 6 [some (.ref 512), some (.int v1)] [] [] [])
    refine q_blf 2 [] (a := q_kc (t, r, 1, z, N, ext, rx, L) I E 17 [some (.ref 512), some (.int v1)] [] [] []) (b := q_kc (t, r, 1, z, N, ext, rx, L) I E 9 [some (.ref 512), some (.int v1)] [] [] []) (P := (136 : Int32) ≤ v1) ok_X14_forget rfl q_cn (fun h1 => ?_) (fun h1 => ?_)
    · have hf := q_ip h1 hf
      refine q_less (ls' := [none, none]) (q_sb1 (q_sb1 q_sb0)) ?_
      cases hf
      exact q_Jpad (q_pdw [511] rfl rfl) (q_pdw [] rfl rfl) hK0
    · have hf := q_in h1 hf
      obtain ⟨j2, hj2, hf⟩ := q_bd hf
      refine q_blk 8 [j2] (c' := q_kc (t, r, 1, z, N, ext, rx, L) I E 6 [some (.ref 512), some (.int (v1 + 1))] [] [(511, (q_up (I 511) j2 (0 : Int32)))] []) ok_X14_forget rfl (q_cc hj2 q_cn) ?_
      exact ih (I := q_ws I [(511, (q_up (I 511) j2 (0 : Int32)))]) (E := q_ws E []) hf (q_Jmrg (q_mgw rfl rfl) (q_mgw rfl rfl) hK0)
set_option maxHeartbeats 4000000 in
theorem ct_X14_forget_512 {g : q_G} {t : Nat} {r : Nat} {z : Nat} {N : Nat} {ext : Nat → q_Sh} {rx : Nat → Nat → Option Nat} {L : Nat → Nat → Int64} {d : Nat} (hd : 1 ≤ d)  {I : Nat → Nat → Int32} {E : Nat → Nat → Option Nat} {r0 : (Nat → Int32) × (Nat → Int32)} (hf : f_X14_forget (I 492) (I 511) = some r0) : q_Ct g m_X14_forget d 0 0 [] [.ref 512] (q_hp (t, r, 1, z, N, ext, rx, L) I E) (fun o h' => o = .inl none ∧ h' = q_hp (t, r, 1, z, N, ext, rx, L) (q_ws I [(492, r0.1), (511, r0.2)]) (q_ws E [])) := by
  rw [f_X14_forget] at hf
  refine q_Ct_of ok_X14_forget (Nat.le_of_ble_eq_true rfl) ?_ _ rfl rfl
  change q_J g m_X14_forget d 0 0 _ [] _ 0 0 (q_kc (t, r, 1, z, N, ext, rx, L) I E 0 [some (.ref 512), none] [] [] [])
  refine q_blk 6 [] (c' := q_kc (t, r, 1, z, N, ext, rx, L) I E 6 [some (.ref 512), some (.int (0 : Int32))] [] [(492, (q_up (I 492) 16 (0 : Int32)))] []) ok_X14_forget rfl q_cn ?_
  obtain ⟨r3, hr3, hf⟩ := q_bd hf
  refine lp_X14_forget_L6_512 (I := q_ws I [(492, (q_up (I 492) 16 (0 : Int32)))]) (E := q_ws E []) hd (Nat.le_of_ble_eq_true rfl) (Nat.le_of_ble_eq_true rfl) 4096 hr3 ?_
  refine q_Jmrg (lI' := [(492, (q_up (I 492) 16 (0 : Int32))), (511, r3)]) (lE' := []) (q_mgw rfl rfl) (q_mgw rfl rfl) ?_
  cases hf
  exact q_krv ok_X14_forget rfl rfl (Nat.le_of_ble_eq_true rfl) (Nat.le_of_ble_eq_true rfl) ⟨rfl, q_hpe (q_pdw [492, 511] rfl rfl) (q_pdw [] rfl rfl)⟩
set_option maxHeartbeats 4000000 in
theorem ct_X14_comeTo_512 {g : q_G} {t : Nat} {r : Nat} {z : Nat} {N : Nat} {ext : Nat → q_Sh} {rx : Nat → Nat → Option Nat} {L : Nat → Nat → Int64} {d : Nat} (hd : 1 ≤ d)  {I : Nat → Nat → Int32} {E : Nat → Nat → Option Nat} {x1 : Int32} {r0 : (Nat → Int32) × (Nat → Int32) × (Nat → Int32)} (hf : f_X14_comeTo (I 492) (I 510) (I 511) x1 = some r0) : q_Ct g m_X14_comeTo d 0 0 [] [.ref 512, .int x1] (q_hp (t, r, 1, z, N, ext, rx, L) I E) (fun o h' => o = .inl none ∧ h' = q_hp (t, r, 1, z, N, ext, rx, L) (q_ws I [(492, r0.1), (510, r0.2.1), (511, r0.2.2)]) (q_ws E [])) := by
  rw [f_X14_comeTo] at hf
  refine q_Ct_of ok_X14_comeTo (Nat.le_of_ble_eq_true rfl) ?_ _ rfl rfl
  change q_J g m_X14_comeTo d 0 0 _ [] _ 0 0 (q_kc (t, r, 1, z, N, ext, rx, L) I E 0 [some (.ref 512), some (.int x1)] [] [] [])
  refine q_blf 2 [] (a := q_kc (t, r, 1, z, N, ext, rx, L) I E 9 [some (.ref 512), some (.int x1)] [] [] []) (b := q_kc (t, r, 1, z, N, ext, rx, L) I E 3 [some (.ref 512), some (.int x1)] [] [] []) (P := x1 = (-1 : Int32)) ok_X14_comeTo rfl q_cn (fun h1 => ?_) (fun h1 => ?_)
  · have hf := q_ip h1 hf
    cases hf
    exact q_krv ok_X14_comeTo rfl rfl (Nat.le_of_ble_eq_true rfl) (Nat.le_of_ble_eq_true rfl) ⟨rfl, q_hpe (q_pdw [492, 510, 511] rfl rfl) (q_pdw [] rfl rfl)⟩
  · have hf := q_in h1 hf
    obtain ⟨j2, hj2, hf⟩ := q_bd hf
    refine q_blf 5 [j2] (a := q_kc (t, r, 1, z, N, ext, rx, L) I E 10 [some (.ref 512), some (.int x1)] [] [] []) (b := q_kc (t, r, 1, z, N, ext, rx, L) I E 9 [some (.ref 512), some (.int x1)] [] [] []) (P := ((I 511) j2) = 0) ok_X14_comeTo rfl (q_cc hj2 q_cn) (fun h3 => ?_) (fun h3 => ?_)
    · have hf := q_ip h3 hf
      obtain ⟨j4, hj4, hf⟩ := q_bd hf
      obtain ⟨j5, hj5, hf⟩ := q_bd hf
      refine q_blk 21 [j4, j5] (c' := q_kc (t, r, 1, z, N, ext, rx, L) I E 31 [some (.ref 512), some (.int x1)] [] [(492, (q_up (I 492) 16 (((I 492) 16) + (1 : Int32)))), (510, (q_up (I 510) j5 x1)), (511, (q_up (I 511) j4 (1 : Int32)))] []) ok_X14_comeTo rfl (q_cc hj5 (q_cc hj4 q_cn)) ?_
      cases hf
      exact q_krv ok_X14_comeTo rfl rfl (Nat.le_of_ble_eq_true rfl) (Nat.le_of_ble_eq_true rfl) ⟨rfl, q_hpe (q_pdw [492, 510, 511] rfl rfl) (q_pdw [] rfl rfl)⟩
    · have hf := q_in h3 hf
      cases hf
      exact q_krv ok_X14_comeTo rfl rfl (Nat.le_of_ble_eq_true rfl) (Nat.le_of_ble_eq_true rfl) ⟨rfl, q_hpe (q_pdw [492, 510, 511] rfl rfl) (q_pdw [] rfl rfl)⟩
set_option maxHeartbeats 4000000 in
theorem lp_X14_reach_L4_512 {g : q_G} {d mc ms : Nat} {h0 : q_H} {Q : (Option Value ⊕ String) → q_H → Prop} {k n : Nat} {t : Nat} {r : Nat} {z : Nat} {N : Nat} {ext : Nat → q_Sh} {rx : Nat → Nat → Option Nat} {L : Nat → Nat → Int64} (hd : 2 ≤ d) (hk : k ≤ mc) (hn : n ≤ ms)  : ∀ (fu : Nat) {I : Nat → Nat → Int32} {E : Nat → Nat → Option Nat} {v1 : Int32} {r0 : (Nat → Int32) × (Nat → Int32) × (Nat → Int32)} (hf : f_X14_reach_L4 (I 499) (I 513) fu (I 492) (I 510) (I 511) v1 = some r0) (hK0 : q_J g m_X14_reach d mc ms h0 [] Q k n (q_kc (t, r, 1, z, N, ext, rx, L) I E 18 [some (.ref 512), none, none] [] [(492, r0.1), (510, r0.2.1), (511, r0.2.2)] [])), q_J g m_X14_reach d mc ms h0 [] Q k n (4, [some (.ref 512), some (.int v1), none], [], q_hp (t, r, 1, z, N, ext, rx, L) I E) := by
  intro fu
  induction fu with
  | zero =>
    intro I E v1 r0 hf hK0
    rw [f_X14_reach_L4] at hf
    cases hf
  | succ fu ih =>
    intro I E v1 r0 hf hK0
    rw [f_X14_reach_L4] at hf
    change q_J g m_X14_reach d mc ms h0 [] Q k n (q_kc (t, r, 1, z, N, ext, rx, L) I E 4 [some (.ref 512), some (.int v1), none] [] [] [])
    refine q_blf 5 [] (a := q_kc (t, r, 1, z, N, ext, rx, L) I E 18 [some (.ref 512), some (.int v1), none] [] [] []) (b := q_kc (t, r, 1, z, N, ext, rx, L) I E 10 [some (.ref 512), some (.int v1), none] [] [] []) (P := ((I 499) 0) ≤ v1) ok_X14_reach rfl q_cn (fun h1 => ?_) (fun h1 => ?_)
    · have hf := q_ip h1 hf
      refine q_less (ls' := [some (.ref 512), none, none]) (q_sb2 (q_sb1 (q_sb1 q_sb0))) ?_
      cases hf
      exact q_Jpad (q_pdw [492, 510, 511] rfl rfl) (q_pdw [] rfl rfl) hK0
    · have hf := q_in h1 hf
      obtain ⟨j2, hj2, hf⟩ := q_bd hf
      refine q_blk 5 [j2] (c' := q_kc (t, r, 1, z, N, ext, rx, L) I E 15 [some (.ref 512), some (.int v1), none] [.int ((I 513) j2), .ref 512] [] []) ok_X14_reach rfl (q_cc hj2 q_cn) ?_
      obtain ⟨r3, hr3, hf⟩ := q_bd hf
      refine q_kV (M2 := m_X14_comeTo) (As := [.int ((I 513) j2)]) (b := 512) (v2 := none) ok_X14_reach ok_X14_comeTo cv_X14_comeTo (ct_X14_comeTo_512 (d := 1) (Nat.le_refl _) hr3) rfl rfl (Or.inl rfl) rfl rfl rfl rfl (Nat.le_trans (Nat.le_of_ble_eq_true rfl) hd) hk hn (Nat.le_of_ble_eq_true rfl) (fun x hx => absurd hx List.not_mem_nil) (q_nmL0 _) (q_nmS0 _) rfl (pos' := 16) (st' := []) (lI' := [(492, r3.1), (510, r3.2.1), (511, r3.2.2)]) (lE' := []) rfl rfl (q_mgw rfl rfl) rfl ?_
      refine q_blk 2 [] (c' := q_kc (t, r, 1, z, N, ext, rx, L) I E 4 [some (.ref 512), some (.int (v1 + 1)), none] [] [(492, r3.1), (510, r3.2.1), (511, r3.2.2)] []) ok_X14_reach rfl q_cn ?_
      exact ih (I := q_ws I [(492, r3.1), (510, r3.2.1), (511, r3.2.2)]) (E := q_ws E []) hf (q_Jmrg (q_mgw rfl rfl) (q_mgw rfl rfl) hK0)
set_option maxHeartbeats 4000000 in
theorem lp_X14_reach_L27_512 {g : q_G} {d mc ms : Nat} {h0 : q_H} {Q : (Option Value ⊕ String) → q_H → Prop} {k n : Nat} {t : Nat} {r : Nat} {z : Nat} {N : Nat} {ext : Nat → q_Sh} {rx : Nat → Nat → Option Nat} {L : Nat → Nat → Int64} (hd : 2 ≤ d) (hk : k ≤ mc) (hn : n ≤ ms)  {v1 : Int32} : ∀ (fu : Nat) {I : Nat → Nat → Int32} {E : Nat → Nat → Option Nat} {v2 : Int32} {r0 : (Nat → Int32) × (Nat → Int32) × (Nat → Int32)} (hf : f_X14_reach_L27 (I 517) (I 519) v1 fu (I 492) (I 510) (I 511) v2 = some r0) (hK0 : q_J g m_X14_reach d mc ms h0 [] Q k n (q_kc (t, r, 1, z, N, ext, rx, L) I E 53 [some (.ref 512), some (.int v1), none] [] [(492, r0.1), (510, r0.2.1), (511, r0.2.2)] [])), q_J g m_X14_reach d mc ms h0 [] Q k n (27, [some (.ref 512), some (.int v1), some (.int v2)], [], q_hp (t, r, 1, z, N, ext, rx, L) I E) := by
  intro fu
  induction fu with
  | zero =>
    intro I E v2 r0 hf hK0
    rw [f_X14_reach_L27] at hf
    cases hf
  | succ fu ih =>
    intro I E v2 r0 hf hK0
    rw [f_X14_reach_L27] at hf
    change q_J g m_X14_reach d mc ms h0 [] Q k n (q_kc (t, r, 1, z, N, ext, rx, L) I E 27 [some (.ref 512), some (.int v1), some (.int v2)] [] [] [])
    obtain ⟨j4, hj4, hf⟩ := q_bd hf
    obtain ⟨j5, hj5, hf⟩ := q_bd hf
    refine q_blf 9 [j4, j5] (a := q_kc (t, r, 1, z, N, ext, rx, L) I E 53 [some (.ref 512), some (.int v1), some (.int v2)] [] [] []) (b := q_kc (t, r, 1, z, N, ext, rx, L) I E 37 [some (.ref 512), some (.int v1), some (.int v2)] [] [] []) (P := ((I 517) j5) ≤ v2) ok_X14_reach rfl (q_cc hj5 (q_cc hj4 q_cn)) (fun h6 => ?_) (fun h6 => ?_)
    · have hf := q_ip h6 hf
      refine q_less (ls' := [some (.ref 512), some (.int v1), none]) (q_sb2 (q_sb2 (q_sb1 q_sb0))) ?_
      cases hf
      exact q_Jpad (q_pdw [492, 510, 511] rfl rfl) (q_pdw [] rfl rfl) hK0
    · have hf := q_in h6 hf
      obtain ⟨j7, hj7, hf⟩ := q_bd hf
      obtain ⟨j8, hj8, hf⟩ := q_bd hf
      refine q_blk 13 [j7, j8] (c' := q_kc (t, r, 1, z, N, ext, rx, L) I E 50 [some (.ref 512), some (.int v1), some (.int v2)] [.int ((I 519) j8), .ref 512] [] []) ok_X14_reach rfl (q_cc hj8 (q_cc hj7 q_cn)) ?_
      obtain ⟨r9, hr9, hf⟩ := q_bd hf
      refine q_kV (M2 := m_X14_comeTo) (As := [.int ((I 519) j8)]) (b := 512) (v2 := none) ok_X14_reach ok_X14_comeTo cv_X14_comeTo (ct_X14_comeTo_512 (d := 1) (Nat.le_refl _) hr9) rfl rfl (Or.inl rfl) rfl rfl rfl rfl (Nat.le_trans (Nat.le_of_ble_eq_true rfl) hd) hk hn (Nat.le_of_ble_eq_true rfl) (fun x hx => absurd hx List.not_mem_nil) (q_nmL0 _) (q_nmS0 _) rfl (pos' := 51) (st' := []) (lI' := [(492, r9.1), (510, r9.2.1), (511, r9.2.2)]) (lE' := []) rfl rfl (q_mgw rfl rfl) rfl ?_
      refine q_blk 2 [] (c' := q_kc (t, r, 1, z, N, ext, rx, L) I E 27 [some (.ref 512), some (.int v1), some (.int (v2 + 1))] [] [(492, r9.1), (510, r9.2.1), (511, r9.2.2)] []) ok_X14_reach rfl q_cn ?_
      exact ih (I := q_ws I [(492, r9.1), (510, r9.2.1), (511, r9.2.2)]) (E := q_ws E []) hf (q_Jmrg (q_mgw rfl rfl) (q_mgw rfl rfl) hK0)
set_option maxHeartbeats 4000000 in
theorem lp_X14_reach_L20_512 {g : q_G} {d mc ms : Nat} {h0 : q_H} {Q : (Option Value ⊕ String) → q_H → Prop} {k n : Nat} {t : Nat} {r : Nat} {z : Nat} {N : Nat} {ext : Nat → q_Sh} {rx : Nat → Nat → Option Nat} {L : Nat → Nat → Int64} (hd : 2 ≤ d) (hk : k ≤ mc) (hn : n ≤ ms)  : ∀ (fu : Nat) {I : Nat → Nat → Int32} {E : Nat → Nat → Option Nat} {v1 : Int32} {r0 : (Nat → Int32) × (Nat → Int32) × (Nat → Int32)} (hf : f_X14_reach_L20 (I 517) (I 519) fu (I 492) (I 510) (I 511) v1 = some r0) (hK0 : q_J g m_X14_reach d mc ms h0 [] Q k n (q_kc (t, r, 1, z, N, ext, rx, L) I E 55 [none, none, none] [] [(492, r0.1), (510, r0.2.1), (511, r0.2.2)] [])), q_J g m_X14_reach d mc ms h0 [] Q k n (20, [some (.ref 512), some (.int v1), none], [], q_hp (t, r, 1, z, N, ext, rx, L) I E) := by
  intro fu
  induction fu with
  | zero =>
    intro I E v1 r0 hf hK0
    rw [f_X14_reach_L20] at hf
    cases hf
  | succ fu ih =>
    intro I E v1 r0 hf hK0
    rw [f_X14_reach_L20] at hf
    change q_J g m_X14_reach d mc ms h0 [] Q k n (q_kc (t, r, 1, z, N, ext, rx, L) I E 20 [some (.ref 512), some (.int v1), none] [] [] [])
    refine q_blf 4 [] (a := q_kc (t, r, 1, z, N, ext, rx, L) I E 55 [some (.ref 512), some (.int v1), none] [] [] []) (b := q_kc (t, r, 1, z, N, ext, rx, L) I E 25 [some (.ref 512), some (.int v1), none] [] [] []) (P := ((I 492) 16) ≤ v1) ok_X14_reach rfl q_cn (fun h10 => ?_) (fun h10 => ?_)
    · have hf := q_ip h10 hf
      refine q_less (ls' := [none, none, none]) (q_sb1 (q_sb1 (q_sb1 q_sb0))) ?_
      cases hf
      exact q_Jpad (q_pdw [492, 510, 511] rfl rfl) (q_pdw [] rfl rfl) hK0
    · have hf := q_in h10 hf
      refine q_blk 2 [] (c' := q_kc (t, r, 1, z, N, ext, rx, L) I E 27 [some (.ref 512), some (.int v1), some (.int (0 : Int32))] [] [] []) ok_X14_reach rfl q_cn ?_
      obtain ⟨r11, hr11, hf⟩ := q_bd hf
      refine lp_X14_reach_L27_512 (I := q_ws I []) (E := q_ws E []) hd hk hn 4096 hr11 ?_
      refine q_Jmrg (lI' := [(492, r11.1), (510, r11.2.1), (511, r11.2.2)]) (lE' := []) (q_mgw rfl rfl) (q_mgw rfl rfl) ?_
      refine q_blk 2 [] (c' := q_kc (t, r, 1, z, N, ext, rx, L) I E 20 [some (.ref 512), some (.int (v1 + 1)), none] [] [(492, r11.1), (510, r11.2.1), (511, r11.2.2)] []) ok_X14_reach rfl q_cn ?_
      exact ih (I := q_ws I [(492, r11.1), (510, r11.2.1), (511, r11.2.2)]) (E := q_ws E []) hf (q_Jmrg (q_mgw rfl rfl) (q_mgw rfl rfl) hK0)
set_option maxHeartbeats 4000000 in
theorem ct_X14_reach_512 {g : q_G} {t : Nat} {r : Nat} {z : Nat} {N : Nat} {ext : Nat → q_Sh} {rx : Nat → Nat → Option Nat} {L : Nat → Nat → Int64} {d : Nat} (hd : 2 ≤ d)  {I : Nat → Nat → Int32} {E : Nat → Nat → Option Nat} {r0 : (Nat → Int32) × (Nat → Int32) × (Nat → Int32)} (hf : f_X14_reach (I 492) (I 499) (I 510) (I 511) (I 513) (I 517) (I 519) = some r0) : q_Ct g m_X14_reach d 0 0 [] [.ref 512] (q_hp (t, r, 1, z, N, ext, rx, L) I E) (fun o h' => o = .inl none ∧ h' = q_hp (t, r, 1, z, N, ext, rx, L) (q_ws I [(492, r0.1), (510, r0.2.1), (511, r0.2.2)]) (q_ws E [])) := by
  rw [f_X14_reach] at hf
  refine q_Ct_of ok_X14_reach (Nat.le_of_ble_eq_true rfl) ?_ _ rfl rfl
  change q_J g m_X14_reach d 0 0 _ [] _ 0 0 (q_kc (t, r, 1, z, N, ext, rx, L) I E 0 [some (.ref 512), none, none] [] [] [])
  refine q_blk 1 [] (c' := q_kc (t, r, 1, z, N, ext, rx, L) I E 1 [some (.ref 512), none, none] [.ref 512] [] []) ok_X14_reach rfl q_cn ?_
  obtain ⟨r12, hr12, hf⟩ := q_bd hf
  refine q_kV (M2 := m_X14_forget) (As := []) (b := 512) (v2 := none) ok_X14_reach ok_X14_forget cv_X14_forget (ct_X14_forget_512 (d := 1) (Nat.le_refl _) hr12) rfl rfl (Or.inl rfl) rfl rfl rfl rfl (Nat.le_trans (Nat.le_of_ble_eq_true rfl) hd) (Nat.le_of_ble_eq_true rfl) (Nat.le_of_ble_eq_true rfl) (Nat.le_of_ble_eq_true rfl) (fun x hx => absurd hx List.not_mem_nil) (q_nmL0 _) (q_nmS0 _) rfl (pos' := 2) (st' := []) (lI' := [(492, r12.1), (511, r12.2)]) (lE' := []) rfl rfl (q_mgw rfl rfl) rfl ?_
  refine q_blk 2 [] (c' := q_kc (t, r, 1, z, N, ext, rx, L) I E 4 [some (.ref 512), some (.int (0 : Int32)), none] [] [(492, r12.1), (511, r12.2)] []) ok_X14_reach rfl q_cn ?_
  obtain ⟨r13, hr13, hf⟩ := q_bd hf
  refine lp_X14_reach_L4_512 (I := q_ws I [(492, r12.1), (511, r12.2)]) (E := q_ws E []) hd (Nat.le_of_ble_eq_true rfl) (Nat.le_of_ble_eq_true rfl) 4096 hr13 ?_
  refine q_Jmrg (lI' := [(492, r13.1), (510, r13.2.1), (511, r13.2.2)]) (lE' := []) (q_mgw rfl rfl) (q_mgw rfl rfl) ?_
  refine q_blk 2 [] (c' := q_kc (t, r, 1, z, N, ext, rx, L) I E 20 [some (.ref 512), some (.int (0 : Int32)), none] [] [(492, r13.1), (510, r13.2.1), (511, r13.2.2)] []) ok_X14_reach rfl q_cn ?_
  obtain ⟨r14, hr14, hf⟩ := q_bd hf
  refine lp_X14_reach_L20_512 (I := q_ws I [(492, r13.1), (510, r13.2.1), (511, r13.2.2)]) (E := q_ws E []) hd (Nat.le_of_ble_eq_true rfl) (Nat.le_of_ble_eq_true rfl) 4096 hr14 ?_
  refine q_Jmrg (lI' := [(492, r14.1), (510, r14.2.1), (511, r14.2.2)]) (lE' := []) (q_mgw rfl rfl) (q_mgw rfl rfl) ?_
  cases hf
  exact q_krv ok_X14_reach rfl rfl (Nat.le_of_ble_eq_true rfl) (Nat.le_of_ble_eq_true rfl) ⟨rfl, q_hpe (q_pdw [492, 510, 511] rfl rfl) (q_pdw [] rfl rfl)⟩
