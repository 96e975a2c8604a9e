set_option maxHeartbeats 4000000 in
theorem ct_X2_hold_457 {g : q_G} {t : Nat} {r : Nat} {m : Nat} {z : Nat} {N : Nat} {ext : Nat → q_Sh} {rx : Nat → Nat → Option Nat} {L : Nat → Nat → Int64} {d : Nat} (hd : 1 ≤ d)  {I : Nat → Nat → Int32} {E : Nat → Nat → Option Nat} {x1 : Int32} {x2 : Int32} {r0 : (Nat → Int32)} (hf : f_X2_hold (I 470) x1 x2 = some r0) : q_Ct g m_X2_hold d 0 0 [] [.ref 457, .int x1, .int x2] (q_hp (t, r, m, z, N, ext, rx, L) I E) (fun o h' => o = .inl none ∧ h' = q_hp (t, r, m, z, N, ext, rx, L) (q_ws I [(470, r0)]) (q_ws E [])) := by
  rw [f_X2_hold] at hf
  refine q_Ct_of ok_X2_hold (Nat.le_of_ble_eq_true rfl) ?_ _ rfl rfl
  change q_J g m_X2_hold d 0 0 _ [] _ 0 0 (q_kc (t, r, m, z, N, ext, rx, L) I E 0 [some (.ref 457), some (.int x1), some (.int x2)] [] [] [])
  refine q_blf 1 [] (a := q_kc (t, r, m, z, N, ext, rx, L) I E 10 [some (.ref 457), some (.int x1), some (.int x2)] [] [] []) (b := q_kc (t, r, m, z, N, ext, rx, L) I E 2 [some (.ref 457), some (.int x1), some (.int x2)] [] [] []) (P := x1 < 0) ok_X2_hold rfl q_cn (fun h1 => ?_) (fun h1 => ?_)
  · have hf := q_ip h1 hf
    cases hf
    exact q_krv ok_X2_hold rfl rfl (Nat.le_of_ble_eq_true rfl) (Nat.le_of_ble_eq_true rfl) ⟨rfl, q_hpe (q_pdw [470] rfl rfl) (q_pdw [] rfl rfl)⟩
  · have hf := q_in h1 hf
    refine q_blf 2 [] (a := q_kc (t, r, m, z, N, ext, rx, L) I E 10 [some (.ref 457), some (.int x1), some (.int x2)] [] [] []) (b := q_kc (t, r, m, z, N, ext, rx, L) I E 5 [some (.ref 457), some (.int x1), some (.int x2)] [] [] []) (P := (6 : Int32) ≤ x1) ok_X2_hold rfl q_cn (fun h2 => ?_) (fun h2 => ?_)
    · have hf := q_ip h2 hf
      cases hf
      exact q_krv ok_X2_hold rfl rfl (Nat.le_of_ble_eq_true rfl) (Nat.le_of_ble_eq_true rfl) ⟨rfl, q_hpe (q_pdw [470] rfl rfl) (q_pdw [] rfl rfl)⟩
    · have hf := q_in h2 hf
      obtain ⟨j3, hj3, hf⟩ := q_bd hf
      refine q_blk 5 [j3] (c' := q_kc (t, r, m, z, N, ext, rx, L) I E 10 [some (.ref 457), some (.int x1), some (.int x2)] [] [(470, (q_up (I 470) j3 x2))] []) ok_X2_hold rfl (q_cc hj3 q_cn) ?_
      cases hf
      exact q_krv ok_X2_hold rfl rfl (Nat.le_of_ble_eq_true rfl) (Nat.le_of_ble_eq_true rfl) ⟨rfl, q_hpe (q_pdw [470] rfl rfl) (q_pdw [] rfl rfl)⟩
set_option maxHeartbeats 4000000 in
theorem ct_X2_makeBale_457 {g : q_G} {t : Nat} {r : Nat} {m : Nat} {ext : Nat → q_Sh} {rx : Nat → Nat → Option Nat} {L : Nat → Nat → Int64} {d : Nat} (hd : 4 ≤ d)  {I : Nat → Nat → Int32} {E : Nat → Nat → Option Nat} {x1 : Int32} {x2 : Int32} {x3 : Int32} {r0 : Bool × (Nat → Int32) × (Nat → Int32) × (Nat → Int32) × (Nat → Int32) × (Nat → Int32) × (Nat → Int32) × (Nat → Int32) × (Nat → Int32) × (Nat → Int32) × (Nat → Int32) × (Nat → Int32) × (Nat → Int32) × (Nat → Int32) × (Nat → Int32) × (Nat → Int32)} (hf : f_X2_makeBale (I 402) (I 457) (I 459) (I 460) (I 461) (I 462) (I 463) (I 464) (I 465) (I 466) (I 467) (I 468) (I 469) (I 470) (I 471) (I 472) x1 x2 x3 = some r0) : q_Ct g m_X2_makeBale d 0 0 [471, 472] [.ref 457, .int x1, .int x2, .int x3] (q_hp (t, r, m, 499, 492, ext, rx, L) I E) (fun o h' => o = .inl (some (.int (q_bz r0.1))) ∧ h' = q_hp (t, r, m, 499, 492, ext, rx, L) (q_ws I [(457, r0.2.1), (459, r0.2.2.1), (460, r0.2.2.2.1), (461, r0.2.2.2.2.1), (462, r0.2.2.2.2.2.1), (463, r0.2.2.2.2.2.2.1), (464, r0.2.2.2.2.2.2.2.1), (465, r0.2.2.2.2.2.2.2.2.1), (466, r0.2.2.2.2.2.2.2.2.2.1), (467, r0.2.2.2.2.2.2.2.2.2.2.1), (468, r0.2.2.2.2.2.2.2.2.2.2.2.1), (469, r0.2.2.2.2.2.2.2.2.2.2.2.2.1), (470, r0.2.2.2.2.2.2.2.2.2.2.2.2.2.1), (471, r0.2.2.2.2.2.2.2.2.2.2.2.2.2.2.1), (472, r0.2.2.2.2.2.2.2.2.2.2.2.2.2.2.2)]) (q_ws E [])) := by
  rw [f_X2_makeBale] at hf
  refine q_Ct_of ok_X2_makeBale (Nat.le_of_ble_eq_true rfl) ?_ _ rfl rfl
  change q_J g m_X2_makeBale d 0 0 _ [471, 472] _ 0 0 (q_kc (t, r, m, 499, 492, ext, rx, L) I E 0 [some (.ref 457), some (.int x1), some (.int x2), some (.int x3), none] [] [] [])
  refine q_blk 1 [] (c' := q_kc (t, r, m, 499, 492, ext, rx, L) I E 1 [some (.ref 457), some (.int x1), some (.int x2), some (.int x3), none] [.ref 457] [] []) ok_X2_makeBale rfl q_cn ?_
  obtain ⟨r1, hr1, hf⟩ := q_bd hf
  refine q_kV (M2 := m_X2_freePlaces) (As := []) (b := 457) (v2 := some (.int r1)) ok_X2_makeBale ok_X2_freePlaces cv_X2_freePlaces (ct_X2_freePlaces_457 (d := 1) (Nat.le_refl _) hr1) rfl rfl (Or.inl rfl) rfl rfl rfl rfl (Nat.le_trans (Nat.le_of_ble_eq_true rfl) hd) (Nat.le_of_ble_eq_true rfl) (Nat.le_of_ble_eq_true rfl) (Nat.le_of_ble_eq_true rfl) (fun x hx => absurd hx List.not_mem_nil) (q_nmL0 _) (q_nmS0 _) rfl (pos' := 2) (st' := [.int r1]) (lI' := []) (lE' := []) rfl rfl rfl rfl ?_
  refine q_blf 1 [] (a := q_kc (t, r, m, 499, 492, ext, rx, L) I E 7 [some (.ref 457), some (.int x1), some (.int x2), some (.int x3), none] [] [] []) (b := q_kc (t, r, m, 499, 492, ext, rx, L) I E 4 [some (.ref 457), some (.int x1), some (.int x2), some (.int x3), none] [] [] []) (P := x2 ≤ r1) ok_X2_makeBale rfl q_cn (fun h2 => ?_) (fun h2 => ?_)
  · have hf := q_ip h2 hf
    refine q_blk 1 [] (c' := q_kc (t, r, m, 499, 492, ext, rx, L) I E 8 [some (.ref 457), some (.int x1), some (.int x2), some (.int x3), none] [.ref 457] [] []) ok_X2_makeBale rfl q_cn ?_
    obtain ⟨r3, hr3, hf⟩ := q_bd hf
    refine q_kV (M2 := m_X2_freePlaces) (As := []) (b := 457) (v2 := some (.int r3)) ok_X2_makeBale ok_X2_freePlaces cv_X2_freePlaces (ct_X2_freePlaces_457 (d := 1) (Nat.le_refl _) hr3) rfl rfl (Or.inl rfl) rfl rfl rfl rfl (Nat.le_trans (Nat.le_of_ble_eq_true rfl) hd) (Nat.le_of_ble_eq_true rfl) (Nat.le_of_ble_eq_true rfl) (Nat.le_of_ble_eq_true rfl) (fun x hx => absurd hx List.not_mem_nil) (q_nmL0 _) (q_nmS0 _) rfl (pos' := 9) (st' := [.int r3]) (lI' := []) (lE' := []) rfl rfl rfl rfl ?_
    refine q_blf 1 [] (a := q_kc (t, r, m, 499, 492, ext, rx, L) I E 13 [some (.ref 457), some (.int x1), some (.int x2), some (.int x3), none] [] [] []) (b := q_kc (t, r, m, 499, 492, ext, rx, L) I E 11 [some (.ref 457), some (.int x1), some (.int x2), some (.int x3), none] [] [] []) (P := x2 ≤ r3) ok_X2_makeBale rfl q_cn (fun h4 => ?_) (fun h4 => ?_)
    · have hf := q_ip h4 hf
      refine q_blk 6 [] (c' := q_kc (t, r, m, 499, 492, ext, rx, L) I E 19 [some (.ref 457), some (.int x1), some (.int x2), some (.int x3), none] [.int x3, .int x2, .int ((I 457) 8), .ref 458] [] []) ok_X2_makeBale rfl q_cn ?_
      obtain ⟨r5, hr5, hf⟩ := q_bd hf
      refine q_kV (M2 := m_X1_add) (As := [.int ((I 457) 8), .int x2, .int x3]) (b := 458) (v2 := some (.int r5.1)) ok_X2_makeBale ok_X1_add cv_X1_add (ct_X1_add_458 (d := 1) (Nat.le_refl _) hr5) rfl rfl (Or.inl rfl) rfl rfl rfl rfl (Nat.le_trans (Nat.le_of_ble_eq_true rfl) hd) (Nat.le_of_ble_eq_true rfl) (Nat.le_of_ble_eq_true rfl) (Nat.le_of_ble_eq_true rfl) (fun x hx => absurd hx List.not_mem_nil) (q_nmL0 _) (q_nmS0 _) rfl (pos' := 20) (st' := [.int r5.1]) (lI' := [(459, r5.2.1), (460, r5.2.2.1), (461, r5.2.2.2.1), (462, r5.2.2.2.2.1), (463, r5.2.2.2.2.2.1), (464, r5.2.2.2.2.2.2)]) (lE' := []) rfl rfl (q_mgw rfl rfl) rfl ?_
      refine q_blf 3 [] (a := q_kc (t, r, m, 499, 492, ext, rx, L) I E 26 [some (.ref 457), some (.int x1), some (.int x2), some (.int x3), some (.int r5.1)] [] [(459, r5.2.1), (460, r5.2.2.1), (461, r5.2.2.2.1), (462, r5.2.2.2.2.1), (463, r5.2.2.2.2.2.1), (464, r5.2.2.2.2.2.2)] []) (b := q_kc (t, r, m, 499, 492, ext, rx, L) I E 24 [some (.ref 457), some (.int x1), some (.int x2), some (.int x3), some (.int r5.1)] [] [(459, r5.2.1), (460, r5.2.2.1), (461, r5.2.2.2.1), (462, r5.2.2.2.2.1), (463, r5.2.2.2.2.2.1), (464, r5.2.2.2.2.2.2)] []) (P := ¬ r5.1 = (-1 : Int32)) ok_X2_makeBale rfl q_cn (fun h6 => ?_) (fun h6 => ?_)
      · have hf := q_ip h6 hf
        refine q_blk 3 [] (c' := q_kc (t, r, m, 499, 492, ext, rx, L) I E 29 [some (.ref 457), some (.int x1), some (.int x2), some (.int x3), some (.int r5.1)] [.int r5.1, .int x1, .ref 457] [(459, r5.2.1), (460, r5.2.2.1), (461, r5.2.2.2.1), (462, r5.2.2.2.2.1), (463, r5.2.2.2.2.2.1), (464, r5.2.2.2.2.2.2)] []) ok_X2_makeBale rfl q_cn ?_
        obtain ⟨r7, hr7, hf⟩ := q_bd hf
        refine q_kV (M2 := m_X2_hold) (As := [.int x1, .int r5.1]) (b := 457) (v2 := none) ok_X2_makeBale ok_X2_hold cv_X2_hold (ct_X2_hold_457 (d := 1) (Nat.le_refl _) hr7) rfl rfl (Or.inl rfl) rfl rfl rfl rfl (Nat.le_trans (Nat.le_of_ble_eq_true rfl) hd) (Nat.le_of_ble_eq_true rfl) (Nat.le_of_ble_eq_true rfl) (Nat.le_of_ble_eq_true rfl) (fun x hx => absurd hx List.not_mem_nil) (q_nmL0 _) (q_nmS0 _) rfl (pos' := 30) (st' := []) (lI' := [(459, r5.2.1), (460, r5.2.2.1), (461, r5.2.2.2.1), (462, r5.2.2.2.2.1), (463, r5.2.2.2.2.2.1), (464, r5.2.2.2.2.2.2), (470, r7)]) (lE' := []) rfl rfl (q_mgw rfl rfl) rfl ?_
        refine q_blk 3 [] (c' := q_kc (t, r, m, 499, 492, ext, rx, L) I E 33 [some (.ref 457), some (.int x1), some (.int x2), some (.int x3), some (.int r5.1)] [.int x2, .int r5.1, .ref 457] [(459, r5.2.1), (460, r5.2.2.1), (461, r5.2.2.2.1), (462, r5.2.2.2.2.1), (463, r5.2.2.2.2.2.1), (464, r5.2.2.2.2.2.2), (470, r7)] []) ok_X2_makeBale rfl q_cn ?_
        obtain ⟨r8, hr8, hf⟩ := q_bd hf
        refine q_kV (M2 := m_X2_layInRow) (As := [.int r5.1, .int x2]) (b := 457) (v2 := none) ok_X2_makeBale ok_X2_layInRow cv_X2_layInRow (ct_X2_layInRow_457 (d := 1) (Nat.le_refl _) hr8) rfl rfl (Or.inl rfl) rfl rfl rfl rfl (Nat.le_trans (Nat.le_of_ble_eq_true rfl) hd) (Nat.le_of_ble_eq_true rfl) (Nat.le_of_ble_eq_true rfl) (Nat.le_of_ble_eq_true rfl) (fun x hx => absurd hx List.not_mem_nil) (q_nmL0 _) (q_nmS0 _) rfl (pos' := 34) (st' := []) (lI' := [(457, r8.1), (459, r5.2.1), (460, r5.2.2.1), (461, r5.2.2.2.1), (462, r5.2.2.2.2.1), (463, r5.2.2.2.2.2.1), (464, r5.2.2.2.2.2.2), (470, r7), (471, r8.2)]) (lE' := []) rfl rfl (q_mgw rfl rfl) rfl ?_
        refine q_blk 1 [] (c' := q_kc (t, r, m, 499, 492, ext, rx, L) I E 35 [some (.ref 457), some (.int x1), some (.int x2), some (.int x3), some (.int r5.1)] [.int (1 : Int32)] [(457, r8.1), (459, r5.2.1), (460, r5.2.2.1), (461, r5.2.2.2.1), (462, r5.2.2.2.2.1), (463, r5.2.2.2.2.2.1), (464, r5.2.2.2.2.2.2), (470, r7), (471, r8.2)] []) ok_X2_makeBale rfl q_cn ?_
        cases hf
        exact q_kri ok_X2_makeBale rfl rfl rfl (Nat.le_of_ble_eq_true rfl) (Nat.le_of_ble_eq_true rfl) ⟨rfl, q_hpe (q_pdw [457, 459, 460, 461, 462, 463, 464, 465, 466, 467, 468, 469, 470, 471, 472] rfl rfl) (q_pdw [] rfl rfl)⟩
      · have hf := q_in h6 hf
        refine q_blk 1 [] (c' := q_kc (t, r, m, 499, 492, ext, rx, L) I E 25 [some (.ref 457), some (.int x1), some (.int x2), some (.int x3), some (.int r5.1)] [.int (0 : Int32)] [(459, r5.2.1), (460, r5.2.2.1), (461, r5.2.2.2.1), (462, r5.2.2.2.2.1), (463, r5.2.2.2.2.2.1), (464, r5.2.2.2.2.2.2)] []) ok_X2_makeBale rfl q_cn ?_
        cases hf
        exact q_kri ok_X2_makeBale rfl rfl rfl (Nat.le_of_ble_eq_true rfl) (Nat.le_of_ble_eq_true rfl) ⟨rfl, q_hpe (q_pdw [457, 459, 460, 461, 462, 463, 464, 465, 466, 467, 468, 469, 470, 471, 472] rfl rfl) (q_pdw [] rfl rfl)⟩
    · have hf := q_in h4 hf
      refine q_blk 1 [] (c' := q_kc (t, r, m, 499, 492, ext, rx, L) I E 12 [some (.ref 457), some (.int x1), some (.int x2), some (.int x3), none] [.int (0 : Int32)] [] []) ok_X2_makeBale rfl q_cn ?_
      cases hf
      exact q_kri ok_X2_makeBale rfl rfl rfl (Nat.le_of_ble_eq_true rfl) (Nat.le_of_ble_eq_true rfl) ⟨rfl, q_hpe (q_pdw [457, 459, 460, 461, 462, 463, 464, 465, 466, 467, 468, 469, 470, 471, 472] rfl rfl) (q_pdw [] rfl rfl)⟩
  · have hf := q_in h2 hf
    refine q_blk 1 [] (c' := q_kc (t, r, m, 499, 492, ext, rx, L) I E 5 [some (.ref 457), some (.int x1), some (.int x2), some (.int x3), none] [.ref 457] [] []) ok_X2_makeBale rfl q_cn ?_
    obtain ⟨r9, hr9, hf⟩ := q_bd hf
    refine q_kV (M2 := m_X2_copyHalf) (As := []) (b := 457) (v2 := some (.int r9.1)) ok_X2_makeBale ok_X2_copyHalf cv_X2_copyHalf (ct_X2_copyHalf_457 (d := 3) (Nat.le_refl _) hr9) rfl rfl (Or.inl rfl) rfl rfl rfl rfl (Nat.le_trans (Nat.le_of_ble_eq_true rfl) hd) (Nat.le_of_ble_eq_true rfl) (Nat.le_of_ble_eq_true rfl) (Nat.le_of_ble_eq_true rfl) (fun x hx => hx) rfl rfl rfl (pos' := 6) (st' := [.int r9.1]) (lI' := [(457, r9.2.1), (459, r9.2.2.1), (460, r9.2.2.2.1), (462, r9.2.2.2.2.1), (465, r9.2.2.2.2.2.1), (466, r9.2.2.2.2.2.2.1), (467, r9.2.2.2.2.2.2.2.1), (468, r9.2.2.2.2.2.2.2.2.1), (469, r9.2.2.2.2.2.2.2.2.2.1), (471, r9.2.2.2.2.2.2.2.2.2.2.1), (472, r9.2.2.2.2.2.2.2.2.2.2.2)]) (lE' := []) rfl rfl (q_mgw rfl rfl) rfl ?_
    refine q_blk 2 [] (c' := q_kc (t, r, m, 499, 492, ext, rx, L) I E 8 [some (.ref 457), some (.int x1), some (.int x2), some (.int x3), none] [.ref 457] [(457, r9.2.1), (459, r9.2.2.1), (460, r9.2.2.2.1), (462, r9.2.2.2.2.1), (465, r9.2.2.2.2.2.1), (466, r9.2.2.2.2.2.2.1), (467, r9.2.2.2.2.2.2.2.1), (468, r9.2.2.2.2.2.2.2.2.1), (469, r9.2.2.2.2.2.2.2.2.2.1), (471, r9.2.2.2.2.2.2.2.2.2.2.1), (472, r9.2.2.2.2.2.2.2.2.2.2.2)] []) ok_X2_makeBale rfl q_cn ?_
    obtain ⟨r10, hr10, hf⟩ := q_bd hf
    refine q_kV (M2 := m_X2_freePlaces) (As := []) (b := 457) (v2 := some (.int r10)) ok_X2_makeBale ok_X2_freePlaces cv_X2_freePlaces (ct_X2_freePlaces_457 (d := 1) (Nat.le_refl _) hr10) rfl rfl (Or.inl rfl) rfl rfl rfl rfl (Nat.le_trans (Nat.le_of_ble_eq_true rfl) hd) (Nat.le_of_ble_eq_true rfl) (Nat.le_of_ble_eq_true rfl) (Nat.le_of_ble_eq_true rfl) (fun x hx => absurd hx List.not_mem_nil) (q_nmL0 _) (q_nmS0 _) rfl (pos' := 9) (st' := [.int r10]) (lI' := [(457, r9.2.1), (459, r9.2.2.1), (460, r9.2.2.2.1), (462, r9.2.2.2.2.1), (465, r9.2.2.2.2.2.1), (466, r9.2.2.2.2.2.2.1), (467, r9.2.2.2.2.2.2.2.1), (468, r9.2.2.2.2.2.2.2.2.1), (469, r9.2.2.2.2.2.2.2.2.2.1), (471, r9.2.2.2.2.2.2.2.2.2.2.1), (472, r9.2.2.2.2.2.2.2.2.2.2.2)]) (lE' := []) rfl rfl rfl rfl ?_
    refine q_blf 1 [] (a := q_kc (t, r, m, 499, 492, ext, rx, L) I E 13 [some (.ref 457), some (.int x1), some (.int x2), some (.int x3), none] [] [(457, r9.2.1), (459, r9.2.2.1), (460, r9.2.2.2.1), (462, r9.2.2.2.2.1), (465, r9.2.2.2.2.2.1), (466, r9.2.2.2.2.2.2.1), (467, r9.2.2.2.2.2.2.2.1), (468, r9.2.2.2.2.2.2.2.2.1), (469, r9.2.2.2.2.2.2.2.2.2.1), (471, r9.2.2.2.2.2.2.2.2.2.2.1), (472, r9.2.2.2.2.2.2.2.2.2.2.2)] []) (b := q_kc (t, r, m, 499, 492, ext, rx, L) I E 11 [some (.ref 457), some (.int x1), some (.int x2), some (.int x3), none] [] [(457, r9.2.1), (459, r9.2.2.1), (460, r9.2.2.2.1), (462, r9.2.2.2.2.1), (465, r9.2.2.2.2.2.1), (466, r9.2.2.2.2.2.2.1), (467, r9.2.2.2.2.2.2.2.1), (468, r9.2.2.2.2.2.2.2.2.1), (469, r9.2.2.2.2.2.2.2.2.2.1), (471, r9.2.2.2.2.2.2.2.2.2.2.1), (472, r9.2.2.2.2.2.2.2.2.2.2.2)] []) (P := x2 ≤ r10) ok_X2_makeBale rfl q_cn (fun h11 => ?_) (fun h11 => ?_)
    · have hf := q_ip h11 hf
      refine q_blk 6 [] (c' := q_kc (t, r, m, 499, 492, ext, rx, L) I E 19 [some (.ref 457), some (.int x1), some (.int x2), some (.int x3), none] [.int x3, .int x2, .int (r9.2.1 8), .ref 458] [(457, r9.2.1), (459, r9.2.2.1), (460, r9.2.2.2.1), (462, r9.2.2.2.2.1), (465, r9.2.2.2.2.2.1), (466, r9.2.2.2.2.2.2.1), (467, r9.2.2.2.2.2.2.2.1), (468, r9.2.2.2.2.2.2.2.2.1), (469, r9.2.2.2.2.2.2.2.2.2.1), (471, r9.2.2.2.2.2.2.2.2.2.2.1), (472, r9.2.2.2.2.2.2.2.2.2.2.2)] []) ok_X2_makeBale rfl q_cn ?_
      obtain ⟨r12, hr12, hf⟩ := q_bd hf
      refine q_kV (M2 := m_X1_add) (As := [.int (r9.2.1 8), .int x2, .int x3]) (b := 458) (v2 := some (.int r12.1)) ok_X2_makeBale ok_X1_add cv_X1_add (ct_X1_add_458 (d := 1) (Nat.le_refl _) hr12) rfl rfl (Or.inl rfl) rfl rfl rfl rfl (Nat.le_trans (Nat.le_of_ble_eq_true rfl) hd) (Nat.le_of_ble_eq_true rfl) (Nat.le_of_ble_eq_true rfl) (Nat.le_of_ble_eq_true rfl) (fun x hx => absurd hx List.not_mem_nil) (q_nmL0 _) (q_nmS0 _) rfl (pos' := 20) (st' := [.int r12.1]) (lI' := [(457, r9.2.1), (459, r12.2.1), (460, r12.2.2.1), (461, r12.2.2.2.1), (462, r12.2.2.2.2.1), (463, r12.2.2.2.2.2.1), (464, r12.2.2.2.2.2.2), (465, r9.2.2.2.2.2.1), (466, r9.2.2.2.2.2.2.1), (467, r9.2.2.2.2.2.2.2.1), (468, r9.2.2.2.2.2.2.2.2.1), (469, r9.2.2.2.2.2.2.2.2.2.1), (471, r9.2.2.2.2.2.2.2.2.2.2.1), (472, r9.2.2.2.2.2.2.2.2.2.2.2)]) (lE' := []) rfl rfl (q_mgw rfl rfl) rfl ?_
      refine q_blf 3 [] (a := q_kc (t, r, m, 499, 492, ext, rx, L) I E 26 [some (.ref 457), some (.int x1), some (.int x2), some (.int x3), some (.int r12.1)] [] [(457, r9.2.1), (459, r12.2.1), (460, r12.2.2.1), (461, r12.2.2.2.1), (462, r12.2.2.2.2.1), (463, r12.2.2.2.2.2.1), (464, r12.2.2.2.2.2.2), (465, r9.2.2.2.2.2.1), (466, r9.2.2.2.2.2.2.1), (467, r9.2.2.2.2.2.2.2.1), (468, r9.2.2.2.2.2.2.2.2.1), (469, r9.2.2.2.2.2.2.2.2.2.1), (471, r9.2.2.2.2.2.2.2.2.2.2.1), (472, r9.2.2.2.2.2.2.2.2.2.2.2)] []) (b := q_kc (t, r, m, 499, 492, ext, rx, L) I E 24 [some (.ref 457), some (.int x1), some (.int x2), some (.int x3), some (.int r12.1)] [] [(457, r9.2.1), (459, r12.2.1), (460, r12.2.2.1), (461, r12.2.2.2.1), (462, r12.2.2.2.2.1), (463, r12.2.2.2.2.2.1), (464, r12.2.2.2.2.2.2), (465, r9.2.2.2.2.2.1), (466, r9.2.2.2.2.2.2.1), (467, r9.2.2.2.2.2.2.2.1), (468, r9.2.2.2.2.2.2.2.2.1), (469, r9.2.2.2.2.2.2.2.2.2.1), (471, r9.2.2.2.2.2.2.2.2.2.2.1), (472, r9.2.2.2.2.2.2.2.2.2.2.2)] []) (P := ¬ r12.1 = (-1 : Int32)) ok_X2_makeBale rfl q_cn (fun h13 => ?_) (fun h13 => ?_)
      · have hf := q_ip h13 hf
        refine q_blk 3 [] (c' := q_kc (t, r, m, 499, 492, ext, rx, L) I E 29 [some (.ref 457), some (.int x1), some (.int x2), some (.int x3), some (.int r12.1)] [.int r12.1, .int x1, .ref 457] [(457, r9.2.1), (459, r12.2.1), (460, r12.2.2.1), (461, r12.2.2.2.1), (462, r12.2.2.2.2.1), (463, r12.2.2.2.2.2.1), (464, r12.2.2.2.2.2.2), (465, r9.2.2.2.2.2.1), (466, r9.2.2.2.2.2.2.1), (467, r9.2.2.2.2.2.2.2.1), (468, r9.2.2.2.2.2.2.2.2.1), (469, r9.2.2.2.2.2.2.2.2.2.1), (471, r9.2.2.2.2.2.2.2.2.2.2.1), (472, r9.2.2.2.2.2.2.2.2.2.2.2)] []) ok_X2_makeBale rfl q_cn ?_
        obtain ⟨r14, hr14, hf⟩ := q_bd hf
        refine q_kV (M2 := m_X2_hold) (As := [.int x1, .int r12.1]) (b := 457) (v2 := none) ok_X2_makeBale ok_X2_hold cv_X2_hold (ct_X2_hold_457 (d := 1) (Nat.le_refl _) hr14) rfl rfl (Or.inl rfl) rfl rfl rfl rfl (Nat.le_trans (Nat.le_of_ble_eq_true rfl) hd) (Nat.le_of_ble_eq_true rfl) (Nat.le_of_ble_eq_true rfl) (Nat.le_of_ble_eq_true rfl) (fun x hx => absurd hx List.not_mem_nil) (q_nmL0 _) (q_nmS0 _) rfl (pos' := 30) (st' := []) (lI' := [(457, r9.2.1), (459, r12.2.1), (460, r12.2.2.1), (461, r12.2.2.2.1), (462, r12.2.2.2.2.1), (463, r12.2.2.2.2.2.1), (464, r12.2.2.2.2.2.2), (465, r9.2.2.2.2.2.1), (466, r9.2.2.2.2.2.2.1), (467, r9.2.2.2.2.2.2.2.1), (468, r9.2.2.2.2.2.2.2.2.1), (469, r9.2.2.2.2.2.2.2.2.2.1), (470, r14), (471, r9.2.2.2.2.2.2.2.2.2.2.1), (472, r9.2.2.2.2.2.2.2.2.2.2.2)]) (lE' := []) rfl rfl (q_mgw rfl rfl) rfl ?_
        refine q_blk 3 [] (c' := q_kc (t, r, m, 499, 492, ext, rx, L) I E 33 [some (.ref 457), some (.int x1), some (.int x2), some (.int x3), some (.int r12.1)] [.int x2, .int r12.1, .ref 457] [(457, r9.2.1), (459, r12.2.1), (460, r12.2.2.1), (461, r12.2.2.2.1), (462, r12.2.2.2.2.1), (463, r12.2.2.2.2.2.1), (464, r12.2.2.2.2.2.2), (465, r9.2.2.2.2.2.1), (466, r9.2.2.2.2.2.2.1), (467, r9.2.2.2.2.2.2.2.1), (468, r9.2.2.2.2.2.2.2.2.1), (469, r9.2.2.2.2.2.2.2.2.2.1), (470, r14), (471, r9.2.2.2.2.2.2.2.2.2.2.1), (472, r9.2.2.2.2.2.2.2.2.2.2.2)] []) ok_X2_makeBale rfl q_cn ?_
        obtain ⟨r15, hr15, hf⟩ := q_bd hf
        refine q_kV (M2 := m_X2_layInRow) (As := [.int r12.1, .int x2]) (b := 457) (v2 := none) ok_X2_makeBale ok_X2_layInRow cv_X2_layInRow (ct_X2_layInRow_457 (d := 1) (Nat.le_refl _) hr15) rfl rfl (Or.inl rfl) rfl rfl rfl rfl (Nat.le_trans (Nat.le_of_ble_eq_true rfl) hd) (Nat.le_of_ble_eq_true rfl) (Nat.le_of_ble_eq_true rfl) (Nat.le_of_ble_eq_true rfl) (fun x hx => absurd hx List.not_mem_nil) (q_nmL0 _) (q_nmS0 _) rfl (pos' := 34) (st' := []) (lI' := [(457, r15.1), (459, r12.2.1), (460, r12.2.2.1), (461, r12.2.2.2.1), (462, r12.2.2.2.2.1), (463, r12.2.2.2.2.2.1), (464, r12.2.2.2.2.2.2), (465, r9.2.2.2.2.2.1), (466, r9.2.2.2.2.2.2.1), (467, r9.2.2.2.2.2.2.2.1), (468, r9.2.2.2.2.2.2.2.2.1), (469, r9.2.2.2.2.2.2.2.2.2.1), (470, r14), (471, r15.2), (472, r9.2.2.2.2.2.2.2.2.2.2.2)]) (lE' := []) rfl rfl (q_mgw rfl rfl) rfl ?_
        refine q_blk 1 [] (c' := q_kc (t, r, m, 499, 492, ext, rx, L) I E 35 [some (.ref 457), some (.int x1), some (.int x2), some (.int x3), some (.int r12.1)] [.int (1 : Int32)] [(457, r15.1), (459, r12.2.1), (460, r12.2.2.1), (461, r12.2.2.2.1), (462, r12.2.2.2.2.1), (463, r12.2.2.2.2.2.1), (464, r12.2.2.2.2.2.2), (465, r9.2.2.2.2.2.1), (466, r9.2.2.2.2.2.2.1), (467, r9.2.2.2.2.2.2.2.1), (468, r9.2.2.2.2.2.2.2.2.1), (469, r9.2.2.2.2.2.2.2.2.2.1), (470, r14), (471, r15.2), (472, r9.2.2.2.2.2.2.2.2.2.2.2)] []) ok_X2_makeBale rfl q_cn ?_
        cases hf
        exact q_kri ok_X2_makeBale rfl rfl rfl (Nat.le_of_ble_eq_true rfl) (Nat.le_of_ble_eq_true rfl) ⟨rfl, q_hpe (q_pdw [457, 459, 460, 461, 462, 463, 464, 465, 466, 467, 468, 469, 470, 471, 472] rfl rfl) (q_pdw [] rfl rfl)⟩
      · have hf := q_in h13 hf
        refine q_blk 1 [] (c' := q_kc (t, r, m, 499, 492, ext, rx, L) I E 25 [some (.ref 457), some (.int x1), some (.int x2), some (.int x3), some (.int r12.1)] [.int (0 : Int32)] [(457, r9.2.1), (459, r12.2.1), (460, r12.2.2.1), (461, r12.2.2.2.1), (462, r12.2.2.2.2.1), (463, r12.2.2.2.2.2.1), (464, r12.2.2.2.2.2.2), (465, r9.2.2.2.2.2.1), (466, r9.2.2.2.2.2.2.1), (467, r9.2.2.2.2.2.2.2.1), (468, r9.2.2.2.2.2.2.2.2.1), (469, r9.2.2.2.2.2.2.2.2.2.1), (471, r9.2.2.2.2.2.2.2.2.2.2.1), (472, r9.2.2.2.2.2.2.2.2.2.2.2)] []) ok_X2_makeBale rfl q_cn ?_
        cases hf
        exact q_kri ok_X2_makeBale rfl rfl rfl (Nat.le_of_ble_eq_true rfl) (Nat.le_of_ble_eq_true rfl) ⟨rfl, q_hpe (q_pdw [457, 459, 460, 461, 462, 463, 464, 465, 466, 467, 468, 469, 470, 471, 472] rfl rfl) (q_pdw [] rfl rfl)⟩
    · have hf := q_in h11 hf
      refine q_blk 1 [] (c' := q_kc (t, r, m, 499, 492, ext, rx, L) I E 12 [some (.ref 457), some (.int x1), some (.int x2), some (.int x3), none] [.int (0 : Int32)] [(457, r9.2.1), (459, r9.2.2.1), (460, r9.2.2.2.1), (462, r9.2.2.2.2.1), (465, r9.2.2.2.2.2.1), (466, r9.2.2.2.2.2.2.1), (467, r9.2.2.2.2.2.2.2.1), (468, r9.2.2.2.2.2.2.2.2.1), (469, r9.2.2.2.2.2.2.2.2.2.1), (471, r9.2.2.2.2.2.2.2.2.2.2.1), (472, r9.2.2.2.2.2.2.2.2.2.2.2)] []) ok_X2_makeBale rfl q_cn ?_
      cases hf
      exact q_kri ok_X2_makeBale rfl rfl rfl (Nat.le_of_ble_eq_true rfl) (Nat.le_of_ble_eq_true rfl) ⟨rfl, q_hpe (q_pdw [457, 459, 460, 461, 462, 463, 464, 465, 466, 467, 468, 469, 470, 471, 472] rfl rfl) (q_pdw [] rfl rfl)⟩
set_option maxHeartbeats 4000000 in
theorem ct_X12_make_400 {g : q_G} {t : Nat} {r : Nat} {m : Nat} {ext : Nat → q_Sh} {rx : Nat → Nat → Option Nat} {L : Nat → Nat → Int64} {d : Nat} (hd : 7 ≤ d)  {I : Nat → Nat → Int32} {E : Nat → Nat → Option Nat} {x1 : Int32} {x2 : Int32} {x3 : Int32} {r0 : (Int32 ⊕ String) × (Nat → Int32) × (Nat → Int32) × (Nat → Int32) × (Nat → Int32) × (Nat → Int32) × (Nat → Int32) × (Nat → Int32) × (Nat → Int32) × (Nat → Int32) × (Nat → Int32) × (Nat → Int32) × (Nat → Int32) × (Nat → Int32) × (Nat → Int32) × (Nat → Int32)} (hf : f_X12_make (I 402) (I 457) (I 459) (I 460) (I 461) (I 462) (I 463) (I 464) (I 465) (I 466) (I 467) (I 468) (I 469) (I 470) (I 471) (I 472) x1 x2 x3 = some r0) : q_Ct g m_X12_make d 3 18 [471, 472] [.ref 400, .int x1, .int x2, .int x3] (q_hp (t, r, m, 499, 492, ext, rx, L) I E) (fun o h' => o = q_oI r0.1 ∧ h' = q_hp (t, r, m, 499, 492, ext, rx, L) (q_ws I [(457, r0.2.1), (459, r0.2.2.1), (460, r0.2.2.2.1), (461, r0.2.2.2.2.1), (462, r0.2.2.2.2.2.1), (463, r0.2.2.2.2.2.2.1), (464, r0.2.2.2.2.2.2.2.1), (465, r0.2.2.2.2.2.2.2.2.1), (466, r0.2.2.2.2.2.2.2.2.2.1), (467, r0.2.2.2.2.2.2.2.2.2.2.1), (468, r0.2.2.2.2.2.2.2.2.2.2.2.1), (469, r0.2.2.2.2.2.2.2.2.2.2.2.2.1), (470, r0.2.2.2.2.2.2.2.2.2.2.2.2.2.1), (471, r0.2.2.2.2.2.2.2.2.2.2.2.2.2.2.1), (472, r0.2.2.2.2.2.2.2.2.2.2.2.2.2.2.2)]) (q_ws E [])) := by
  rw [f_X12_make] at hf
  refine q_Ct_of ok_X12_make (Nat.le_of_ble_eq_true rfl) ?_ _ rfl rfl
  change q_J g m_X12_make d 3 18 _ [471, 472] _ 0 0 (q_kc (t, r, m, 499, 492, ext, rx, L) I E 0 [some (.ref 400), some (.int x1), some (.int x2), some (.int x3)] [] [] [])
  refine q_blk 2 [] (c' := q_kc (t, r, m, 499, 492, ext, rx, L) I E 2 [some (.ref 400), some (.int x1), some (.int x2), some (.int x3)] [.int x1, .ref 400] [] []) ok_X12_make rfl q_cn ?_
  obtain ⟨r1, hr1, hf⟩ := q_bd hf
  cases hv4 : r1 with
  | inl v2 =>
    have hf := q_sm0 hv4 hf
    refine q_kV (M2 := m_X12_checkHook) (As := [.int x1]) (b := 400) (v2 := none) ok_X12_make ok_X12_checkHook cv_X12_checkHook (ct_X12_checkHook_400 (d := 6) (Nat.le_refl _) hr1) (q_oVl hv4) rfl (Or.inl rfl) rfl rfl rfl rfl (Nat.le_trans (Nat.le_of_ble_eq_true rfl) hd) (Nat.le_of_ble_eq_true rfl) (Nat.le_of_ble_eq_true rfl) (Nat.le_of_ble_eq_true rfl) (fun x hx => absurd hx List.not_mem_nil) (q_nmL0 _) (q_nmS0 _) rfl (pos' := 3) (st' := []) (lI' := []) (lE' := []) rfl rfl rfl rfl ?_
    refine q_blf 2 [] (a := q_kc (t, r, m, 499, 492, ext, rx, L) I E 14 [some (.ref 400), some (.int x1), some (.int x2), some (.int x3)] [] [] []) (b := q_kc (t, r, m, 499, 492, ext, rx, L) I E 6 [some (.ref 400), some (.int x1), some (.int x2), some (.int x3)] [] [] []) (P := x2 < (1 : Int32)) ok_X12_make rfl q_cn (fun h5 => ?_) (fun h5 => ?_)
    · have hf := q_ip h5 hf
      cases hf
      exact q_o_throwS ok_X12_make rfl rfl rfl rfl rfl rfl q_inIAE msg_5 thr_1 q_fitIAE q_fits (Nat.le_trans (Nat.le_of_ble_eq_true rfl) hd) (Nat.le_of_ble_eq_true rfl) (Nat.le_of_ble_eq_true rfl) (Nat.le_of_ble_eq_true rfl) ⟨rfl, q_hpe (q_pdw [457, 459, 460, 461, 462, 463, 464, 465, 466, 467, 468, 469, 470, 471, 472] rfl rfl) (q_pdw [] rfl rfl)⟩
    · have hf := q_in h5 hf
      refine q_blf 2 [] (a := q_kc (t, r, m, 499, 492, ext, rx, L) I E 14 [some (.ref 400), some (.int x1), some (.int x2), some (.int x3)] [] [] []) (b := q_kc (t, r, m, 499, 492, ext, rx, L) I E 9 [some (.ref 400), some (.int x1), some (.int x2), some (.int x3)] [] [] []) (P := (9 : Int32) < x2) ok_X12_make rfl q_cn (fun h6 => ?_) (fun h6 => ?_)
      · have hf := q_ip h6 hf
        cases hf
        exact q_o_throwS ok_X12_make rfl rfl rfl rfl rfl rfl q_inIAE msg_5 thr_1 q_fitIAE q_fits (Nat.le_trans (Nat.le_of_ble_eq_true rfl) hd) (Nat.le_of_ble_eq_true rfl) (Nat.le_of_ble_eq_true rfl) (Nat.le_of_ble_eq_true rfl) ⟨rfl, q_hpe (q_pdw [457, 459, 460, 461, 462, 463, 464, 465, 466, 467, 468, 469, 470, 471, 472] rfl rfl) (q_pdw [] rfl rfl)⟩
      · have hf := q_in h6 hf
        refine q_blf 1 [] (a := q_kc (t, r, m, 499, 492, ext, rx, L) I E 14 [some (.ref 400), some (.int x1), some (.int x2), some (.int x3)] [] [] []) (b := q_kc (t, r, m, 499, 492, ext, rx, L) I E 11 [some (.ref 400), some (.int x1), some (.int x2), some (.int x3)] [] [] []) (P := x3 < 0) ok_X12_make rfl q_cn (fun h7 => ?_) (fun h7 => ?_)
        · have hf := q_ip h7 hf
          cases hf
          exact q_o_throwS ok_X12_make rfl rfl rfl rfl rfl rfl q_inIAE msg_5 thr_1 q_fitIAE q_fits (Nat.le_trans (Nat.le_of_ble_eq_true rfl) hd) (Nat.le_of_ble_eq_true rfl) (Nat.le_of_ble_eq_true rfl) (Nat.le_of_ble_eq_true rfl) ⟨rfl, q_hpe (q_pdw [457, 459, 460, 461, 462, 463, 464, 465, 466, 467, 468, 469, 470, 471, 472] rfl rfl) (q_pdw [] rfl rfl)⟩
        · have hf := q_in h7 hf
          refine q_blf 2 [] (a := q_kc (t, r, m, 499, 492, ext, rx, L) I E 19 [some (.ref 400), some (.int x1), some (.int x2), some (.int x3)] [] [] []) (b := q_kc (t, r, m, 499, 492, ext, rx, L) I E 14 [some (.ref 400), some (.int x1), some (.int x2), some (.int x3)] [] [] []) (P := x3 ≤ (3 : Int32)) ok_X12_make rfl q_cn (fun h8 => ?_) (fun h8 => ?_)
          · have hf := q_ip h8 hf
            refine q_blk 5 [] (c' := q_kc (t, r, m, 499, 492, ext, rx, L) I E 24 [some (.ref 400), some (.int x1), some (.int x2), some (.int x3)] [.int x3, .int x2, .int x1, .ref 457] [] []) ok_X12_make rfl q_cn ?_
            refine q_less (ls' := [some (.ref 400), some (.int x1), none, none]) (q_sb2 (q_sb2 (q_sb1 (q_sb1 q_sb0)))) ?_
            obtain ⟨r9, hr9, hf⟩ := q_bd hf
            refine q_kV (M2 := m_X2_makeBale) (As := [.int x1, .int x2, .int x3]) (b := 457) (v2 := some (.int (q_bz r9.1))) ok_X12_make ok_X2_makeBale cv_X2_makeBale (ct_X2_makeBale_457 (d := 4) (Nat.le_refl _) hr9) rfl rfl (Or.inl rfl) rfl rfl rfl rfl (Nat.le_trans (Nat.le_of_ble_eq_true rfl) hd) (Nat.le_of_ble_eq_true rfl) (Nat.le_of_ble_eq_true rfl) (Nat.le_of_ble_eq_true rfl) (fun x hx => hx) rfl rfl rfl (pos' := 25) (st' := [.int (q_bz r9.1)]) (lI' := [(457, r9.2.1), (459, r9.2.2.1), (460, r9.2.2.2.1), (461, r9.2.2.2.2.1), (462, r9.2.2.2.2.2.1), (463, r9.2.2.2.2.2.2.1), (464, r9.2.2.2.2.2.2.2.1), (465, r9.2.2.2.2.2.2.2.2.1), (466, r9.2.2.2.2.2.2.2.2.2.1), (467, r9.2.2.2.2.2.2.2.2.2.2.1), (468, r9.2.2.2.2.2.2.2.2.2.2.2.1), (469, r9.2.2.2.2.2.2.2.2.2.2.2.2.1), (470, r9.2.2.2.2.2.2.2.2.2.2.2.2.2.1), (471, r9.2.2.2.2.2.2.2.2.2.2.2.2.2.2.1), (472, r9.2.2.2.2.2.2.2.2.2.2.2.2.2.2.2)]) (lE' := []) rfl rfl (q_mgw rfl rfl) rfl ?_
            refine q_blf 0 [] (a := q_kc (t, r, m, 499, 492, ext, rx, L) I E 31 [some (.ref 400), some (.int x1), none, none] [] [(457, r9.2.1), (459, r9.2.2.1), (460, r9.2.2.2.1), (461, r9.2.2.2.2.1), (462, r9.2.2.2.2.2.1), (463, r9.2.2.2.2.2.2.1), (464, r9.2.2.2.2.2.2.2.1), (465, r9.2.2.2.2.2.2.2.2.1), (466, r9.2.2.2.2.2.2.2.2.2.1), (467, r9.2.2.2.2.2.2.2.2.2.2.1), (468, r9.2.2.2.2.2.2.2.2.2.2.2.1), (469, r9.2.2.2.2.2.2.2.2.2.2.2.2.1), (470, r9.2.2.2.2.2.2.2.2.2.2.2.2.2.1), (471, r9.2.2.2.2.2.2.2.2.2.2.2.2.2.2.1), (472, r9.2.2.2.2.2.2.2.2.2.2.2.2.2.2.2)] []) (b := q_kc (t, r, m, 499, 492, ext, rx, L) I E 26 [some (.ref 400), some (.int x1), none, none] [] [(457, r9.2.1), (459, r9.2.2.1), (460, r9.2.2.2.1), (461, r9.2.2.2.2.1), (462, r9.2.2.2.2.2.1), (463, r9.2.2.2.2.2.2.1), (464, r9.2.2.2.2.2.2.2.1), (465, r9.2.2.2.2.2.2.2.2.1), (466, r9.2.2.2.2.2.2.2.2.2.1), (467, r9.2.2.2.2.2.2.2.2.2.2.1), (468, r9.2.2.2.2.2.2.2.2.2.2.2.1), (469, r9.2.2.2.2.2.2.2.2.2.2.2.2.1), (470, r9.2.2.2.2.2.2.2.2.2.2.2.2.2.1), (471, r9.2.2.2.2.2.2.2.2.2.2.2.2.2.2.1), (472, r9.2.2.2.2.2.2.2.2.2.2.2.2.2.2.2)] []) (P := ¬ (q_bz r9.1) = 0) ok_X12_make rfl q_cn (fun h10 => ?_) (fun h10 => ?_)
            · have hf := q_ip h10 hf
              refine q_blk 6 [] (c' := q_kc (t, r, m, 499, 492, ext, rx, L) I E 37 [some (.ref 400), some (.int x1), none, none] [.int x1, .ref 457, .ref 458] [(457, r9.2.1), (459, r9.2.2.1), (460, r9.2.2.2.1), (461, r9.2.2.2.2.1), (462, r9.2.2.2.2.2.1), (463, r9.2.2.2.2.2.2.1), (464, r9.2.2.2.2.2.2.2.1), (465, r9.2.2.2.2.2.2.2.2.1), (466, r9.2.2.2.2.2.2.2.2.2.1), (467, r9.2.2.2.2.2.2.2.2.2.2.1), (468, r9.2.2.2.2.2.2.2.2.2.2.2.1), (469, r9.2.2.2.2.2.2.2.2.2.2.2.2.1), (470, r9.2.2.2.2.2.2.2.2.2.2.2.2.2.1), (471, r9.2.2.2.2.2.2.2.2.2.2.2.2.2.2.1), (472, r9.2.2.2.2.2.2.2.2.2.2.2.2.2.2.2)] []) ok_X12_make rfl q_cn ?_
              obtain ⟨r11, hr11, hf⟩ := q_bd hf
              refine q_kV (M2 := m_X2_held) (As := [.int x1]) (b := 457) (v2 := some (.int r11)) ok_X12_make ok_X2_held cv_X2_held (ct_X2_held_457 (d := 1) (Nat.le_refl _) hr11) rfl rfl (Or.inl rfl) rfl rfl rfl rfl (Nat.le_trans (Nat.le_of_ble_eq_true rfl) hd) (Nat.le_of_ble_eq_true rfl) (Nat.le_of_ble_eq_true rfl) (Nat.le_of_ble_eq_true rfl) (fun x hx => absurd hx List.not_mem_nil) (q_nmL0 _) (q_nmS0 _) rfl (pos' := 38) (st' := [.int r11, .ref 458]) (lI' := [(457, r9.2.1), (459, r9.2.2.1), (460, r9.2.2.2.1), (461, r9.2.2.2.2.1), (462, r9.2.2.2.2.2.1), (463, r9.2.2.2.2.2.2.1), (464, r9.2.2.2.2.2.2.2.1), (465, r9.2.2.2.2.2.2.2.2.1), (466, r9.2.2.2.2.2.2.2.2.2.1), (467, r9.2.2.2.2.2.2.2.2.2.2.1), (468, r9.2.2.2.2.2.2.2.2.2.2.2.1), (469, r9.2.2.2.2.2.2.2.2.2.2.2.2.1), (470, r9.2.2.2.2.2.2.2.2.2.2.2.2.2.1), (471, r9.2.2.2.2.2.2.2.2.2.2.2.2.2.2.1), (472, r9.2.2.2.2.2.2.2.2.2.2.2.2.2.2.2)]) (lE' := []) rfl rfl rfl rfl ?_
              obtain ⟨r12, hr12, hf⟩ := q_bd hf
              refine q_kV (M2 := m_X1_place) (As := [.int r11]) (b := 458) (v2 := some (.int r12)) ok_X12_make ok_X1_place cv_X1_place (ct_X1_place_458 (d := 1) (Nat.le_refl _) hr12) rfl rfl (Or.inl rfl) rfl rfl rfl rfl (Nat.le_trans (Nat.le_of_ble_eq_true rfl) hd) (Nat.le_of_ble_eq_true rfl) (Nat.le_of_ble_eq_true rfl) (Nat.le_of_ble_eq_true rfl) (fun x hx => absurd hx List.not_mem_nil) (q_nmL0 _) (q_nmS0 _) rfl (pos' := 39) (st' := [.int r12]) (lI' := [(457, r9.2.1), (459, r9.2.2.1), (460, r9.2.2.2.1), (461, r9.2.2.2.2.1), (462, r9.2.2.2.2.2.1), (463, r9.2.2.2.2.2.2.1), (464, r9.2.2.2.2.2.2.2.1), (465, r9.2.2.2.2.2.2.2.2.1), (466, r9.2.2.2.2.2.2.2.2.2.1), (467, r9.2.2.2.2.2.2.2.2.2.2.1), (468, r9.2.2.2.2.2.2.2.2.2.2.2.1), (469, r9.2.2.2.2.2.2.2.2.2.2.2.2.1), (470, r9.2.2.2.2.2.2.2.2.2.2.2.2.2.1), (471, r9.2.2.2.2.2.2.2.2.2.2.2.2.2.2.1), (472, r9.2.2.2.2.2.2.2.2.2.2.2.2.2.2.2)]) (lE' := []) rfl rfl rfl rfl ?_
              cases hf
              exact q_kri ok_X12_make rfl rfl rfl (Nat.le_of_ble_eq_true rfl) (Nat.le_of_ble_eq_true rfl) ⟨rfl, q_hpe (q_pdw [457, 459, 460, 461, 462, 463, 464, 465, 466, 467, 468, 469, 470, 471, 472] rfl rfl) (q_pdw [] rfl rfl)⟩
            · have hf := q_in h10 hf
              cases hf
              exact q_o_throwS ok_X12_make rfl rfl rfl rfl rfl rfl q_inISE msg_6 thr_0 q_fitISE q_fits (Nat.le_trans (Nat.le_of_ble_eq_true rfl) hd) (Nat.le_of_ble_eq_true rfl) (Nat.le_of_ble_eq_true rfl) (Nat.le_of_ble_eq_true rfl) ⟨rfl, q_hpe (q_pdw [457, 459, 460, 461, 462, 463, 464, 465, 466, 467, 468, 469, 470, 471, 472] rfl rfl) (q_pdw [] rfl rfl)⟩
          · have hf := q_in h8 hf
            cases hf
            exact q_o_throwS ok_X12_make rfl rfl rfl rfl rfl rfl q_inIAE msg_5 thr_1 q_fitIAE q_fits (Nat.le_trans (Nat.le_of_ble_eq_true rfl) hd) (Nat.le_of_ble_eq_true rfl) (Nat.le_of_ble_eq_true rfl) (Nat.le_of_ble_eq_true rfl) ⟨rfl, q_hpe (q_pdw [457, 459, 460, 461, 462, 463, 464, 465, 466, 467, 468, 469, 470, 471, 472] rfl rfl) (q_pdw [] rfl rfl)⟩
  | inr e3 =>
    have hf := q_sm1 hv4 hf
    cases hf
    refine q_kVx (M2 := m_X12_checkHook) (As := [.int x1]) (b := 400) ok_X12_make ok_X12_checkHook cv_X12_checkHook (ct_X12_checkHook_400 (d := 6) (Nat.le_refl _) hr1) (q_oVr hv4) rfl (Or.inl rfl) rfl rfl rfl rfl (Nat.le_trans (Nat.le_of_ble_eq_true rfl) hd) (Nat.le_of_ble_eq_true rfl) (Nat.le_of_ble_eq_true rfl) (Nat.le_of_ble_eq_true rfl) (fun x hx => absurd hx List.not_mem_nil) (q_nmL0 _) (q_nmS0 _) rfl (lI' := []) (lE' := []) rfl rfl ⟨rfl, q_hpe (q_pdw [457, 459, 460, 461, 462, 463, 464, 465, 466, 467, 468, 469, 470, 471, 472] rfl rfl) (q_pdw [] rfl rfl)⟩
set_option maxHeartbeats 4000000 in
theorem ct_X1_setLead_458 {g : q_G} {t : Nat} {r : Nat} {m : Nat} {z : Nat} {N : Nat} {ext : Nat → q_Sh} {rx : Nat → Nat → Option Nat} {L : Nat → Nat → Int64} {d : Nat} (hd : 2 ≤ d)  {I : Nat → Nat → Int32} {E : Nat → Nat → Option Nat} {x1 : Int32} {x2 : Int32} {x3 : Int32} {r0 : (Nat → Int32)} (hf : f_X1_setLead (I 463) (I 464) x1 x2 x3 = some r0) : q_Ct g m_X1_setLead d 0 0 [] [.ref 458, .int x1, .int x2, .int x3] (q_hp (t, r, m, z, N, ext, rx, L) I E) (fun o h' => o = .inl none ∧ h' = q_hp (t, r, m, z, N, ext, rx, L) (q_ws I [(464, r0)]) (q_ws E [])) := by
  rw [f_X1_setLead] at hf
  refine q_Ct_of ok_X1_setLead (Nat.le_of_ble_eq_true rfl) ?_ _ rfl rfl
  change q_J g m_X1_setLead d 0 0 _ [] _ 0 0 (q_kc (t, r, m, z, N, ext, rx, L) I E 0 [some (.ref 458), some (.int x1), some (.int x2), some (.int x3)] [] [] [])
  refine q_blk 3 [] (c' := q_kc (t, r, m, z, N, ext, rx, L) I E 3 [some (.ref 458), some (.int x1), some (.int x2), some (.int x3)] [.int x2, .int x1, .ref 458] [] []) ok_X1_setLead rfl q_cn ?_
  obtain ⟨r1, hr1, hf⟩ := q_bd hf
  refine q_kV (M2 := m_X1_hasRope) (As := [.int x1, .int x2]) (b := 458) (v2 := some (.int (q_bz r1))) ok_X1_setLead ok_X1_hasRope cv_X1_hasRope (ct_X1_hasRope_458 (d := 1) (Nat.le_refl _) hr1) rfl rfl (Or.inl rfl) rfl rfl rfl rfl (Nat.le_trans (Nat.le_of_ble_eq_true rfl) hd) (Nat.le_of_ble_eq_true rfl) (Nat.le_of_ble_eq_true rfl) (Nat.le_of_ble_eq_true rfl) (fun x hx => absurd hx List.not_mem_nil) (q_nmL0 _) (q_nmS0 _) rfl (pos' := 4) (st' := [.int (q_bz r1)]) (lI' := []) (lE' := []) rfl rfl rfl rfl ?_
  refine q_blf 0 [] (a := q_kc (t, r, m, z, N, ext, rx, L) I E 14 [some (.ref 458), some (.int x1), some (.int x2), some (.int x3)] [] [] []) (b := q_kc (t, r, m, z, N, ext, rx, L) I E 5 [some (.ref 458), some (.int x1), some (.int x2), some (.int x3)] [] [] []) (P := (q_bz r1) = 0) ok_X1_setLead rfl q_cn (fun h2 => ?_) (fun h2 => ?_)
  · have hf := q_ip h2 hf
    cases hf
    exact q_krv ok_X1_setLead rfl rfl (Nat.le_of_ble_eq_true rfl) (Nat.le_of_ble_eq_true rfl) ⟨rfl, q_hpe (q_pdw [464] rfl rfl) (q_pdw [] rfl rfl)⟩
  · have hf := q_in h2 hf
    obtain ⟨j3, hj3, hf⟩ := q_bd hf
    refine q_blk 9 [j3] (c' := q_kc (t, r, m, z, N, ext, rx, L) I E 14 [some (.ref 458), some (.int x1), some (.int x2), some (.int x3)] [] [(464, (q_up (I 464) j3 x3))] []) ok_X1_setLead rfl (q_cc hj3 q_cn) ?_
    cases hf
    exact q_krv ok_X1_setLead rfl rfl (Nat.le_of_ble_eq_true rfl) (Nat.le_of_ble_eq_true rfl) ⟨rfl, q_hpe (q_pdw [464] rfl rfl) (q_pdw [] rfl rfl)⟩
set_option maxHeartbeats 4000000 in
theorem ct_X2_tieRope_457 {g : q_G} {t : Nat} {r : Nat} {m : Nat} {z : Nat} {N : Nat} {ext : Nat → q_Sh} {rx : Nat → Nat → Option Nat} {L : Nat → Nat → Int64} {d : Nat} (hd : 3 ≤ d)  {I : Nat → Nat → Int32} {E : Nat → Nat → Option Nat} {x1 : Int32} {x2 : Int32} {x3 : Int32} {r0 : Bool × (Nat → Int32)} (hf : f_X2_tieRope (I 463) (I 464) (I 470) x1 x2 x3 = some r0) : q_Ct g m_X2_tieRope d 0 0 [] [.ref 457, .int x1, .int x2, .int x3] (q_hp (t, r, m, z, N, ext, rx, L) I E) (fun o h' => o = .inl (some (.int (q_bz r0.1))) ∧ h' = q_hp (t, r, m, z, N, ext, rx, L) (q_ws I [(464, r0.2)]) (q_ws E [])) := by
  rw [f_X2_tieRope] at hf
  refine q_Ct_of ok_X2_tieRope (Nat.le_of_ble_eq_true rfl) ?_ _ rfl rfl
  change q_J g m_X2_tieRope d 0 0 _ [] _ 0 0 (q_kc (t, r, m, z, N, ext, rx, L) I E 0 [some (.ref 457), some (.int x1), some (.int x2), some (.int x3), none] [] [] [])
  refine q_blk 2 [] (c' := q_kc (t, r, m, z, N, ext, rx, L) I E 2 [some (.ref 457), some (.int x1), some (.int x2), some (.int x3), none] [.int x1, .ref 457] [] []) ok_X2_tieRope rfl q_cn ?_
  obtain ⟨r1, hr1, hf⟩ := q_bd hf
  refine q_kV (M2 := m_X2_held) (As := [.int x1]) (b := 457) (v2 := some (.int r1)) ok_X2_tieRope ok_X2_held cv_X2_held (ct_X2_held_457 (d := 1) (Nat.le_refl _) hr1) rfl rfl (Or.inl rfl) rfl rfl rfl rfl (Nat.le_trans (Nat.le_of_ble_eq_true rfl) hd) (Nat.le_of_ble_eq_true rfl) (Nat.le_of_ble_eq_true rfl) (Nat.le_of_ble_eq_true rfl) (fun x hx => absurd hx List.not_mem_nil) (q_nmL0 _) (q_nmS0 _) rfl (pos' := 3) (st' := [.int r1]) (lI' := []) (lE' := []) rfl rfl rfl rfl ?_
  refine q_blk 3 [] (c' := q_kc (t, r, m, z, N, ext, rx, L) I E 6 [some (.ref 457), some (.int x1), some (.int x2), some (.int x3), some (.int r1)] [.int x3, .ref 457] [] []) ok_X2_tieRope rfl q_cn ?_
  obtain ⟨r2, hr2, hf⟩ := q_bd hf
  refine q_kV (M2 := m_X2_held) (As := [.int x3]) (b := 457) (v2 := some (.int r2)) ok_X2_tieRope ok_X2_held cv_X2_held (ct_X2_held_457 (d := 1) (Nat.le_refl _) hr2) rfl rfl (Or.inl rfl) rfl rfl rfl rfl (Nat.le_trans (Nat.le_of_ble_eq_true rfl) hd) (Nat.le_of_ble_eq_true rfl) (Nat.le_of_ble_eq_true rfl) (Nat.le_of_ble_eq_true rfl) (fun x hx => absurd hx List.not_mem_nil) (q_nmL0 _) (q_nmS0 _) rfl (pos' := 7) (st' := [.int r2]) (lI' := []) (lE' := []) rfl rfl rfl rfl ?_
  refine q_blf 1 [] (a := q_kc (t, r, m, z, N, ext, rx, L) I E 15 [some (.ref 457), some (.int x1), some (.int x2), some (.int x3), some (.int r1)] [] [] []) (b := q_kc (t, r, m, z, N, ext, rx, L) I E 9 [some (.ref 457), some (.int x1), some (.int x2), some (.int x3), some (.int r1)] [] [] []) (P := r2 = (-1 : Int32)) ok_X2_tieRope rfl q_cn (fun h3 => ?_) (fun h3 => ?_)
  · have hf := q_ip h3 hf
    refine q_blk 1 [] (c' := q_kc (t, r, m, z, N, ext, rx, L) I E 16 [some (.ref 457), some (.int x1), some (.int x2), some (.int x3), some (.int r1)] [.int (0 : Int32)] [] []) ok_X2_tieRope rfl q_cn ?_
    cases hf
    exact q_kri ok_X2_tieRope rfl rfl rfl (Nat.le_of_ble_eq_true rfl) (Nat.le_of_ble_eq_true rfl) ⟨rfl, q_hpe (q_pdw [464] rfl rfl) (q_pdw [] rfl rfl)⟩
  · have hf := q_in h3 hf
    refine q_blk 4 [] (c' := q_kc (t, r, m, z, N, ext, rx, L) I E 13 [some (.ref 457), some (.int x1), some (.int x2), some (.int x3), some (.int r1)] [.int x2, .int r1, .ref 458] [] []) ok_X2_tieRope rfl q_cn ?_
    obtain ⟨r4, hr4, hf⟩ := q_bd hf
    refine q_kV (M2 := m_X1_hasRope) (As := [.int r1, .int x2]) (b := 458) (v2 := some (.int (q_bz r4))) ok_X2_tieRope ok_X1_hasRope cv_X1_hasRope (ct_X1_hasRope_458 (d := 1) (Nat.le_refl _) hr4) rfl rfl (Or.inl rfl) rfl rfl rfl rfl (Nat.le_trans (Nat.le_of_ble_eq_true rfl) hd) (Nat.le_of_ble_eq_true rfl) (Nat.le_of_ble_eq_true rfl) (Nat.le_of_ble_eq_true rfl) (fun x hx => absurd hx List.not_mem_nil) (q_nmL0 _) (q_nmS0 _) rfl (pos' := 14) (st' := [.int (q_bz r4)]) (lI' := []) (lE' := []) rfl rfl rfl rfl ?_
    refine q_blf 0 [] (a := q_kc (t, r, m, z, N, ext, rx, L) I E 17 [some (.ref 457), some (.int x1), some (.int x2), some (.int x3), some (.int r1)] [] [] []) (b := q_kc (t, r, m, z, N, ext, rx, L) I E 15 [some (.ref 457), some (.int x1), some (.int x2), some (.int x3), some (.int r1)] [] [] []) (P := ¬ (q_bz r4) = 0) ok_X2_tieRope rfl q_cn (fun h5 => ?_) (fun h5 => ?_)
    · have hf := q_ip h5 hf
      refine q_blk 6 [] (c' := q_kc (t, r, m, z, N, ext, rx, L) I E 23 [some (.ref 457), some (.int x1), some (.int x2), some (.int x3), some (.int r1)] [.int x3, .ref 457, .int x2, .int r1, .ref 458] [] []) ok_X2_tieRope rfl q_cn ?_
      obtain ⟨r6, hr6, hf⟩ := q_bd hf
      refine q_kV (M2 := m_X2_held) (As := [.int x3]) (b := 457) (v2 := some (.int r6)) ok_X2_tieRope ok_X2_held cv_X2_held (ct_X2_held_457 (d := 1) (Nat.le_refl _) hr6) rfl rfl (Or.inl rfl) rfl rfl rfl rfl (Nat.le_trans (Nat.le_of_ble_eq_true rfl) hd) (Nat.le_of_ble_eq_true rfl) (Nat.le_of_ble_eq_true rfl) (Nat.le_of_ble_eq_true rfl) (fun x hx => absurd hx List.not_mem_nil) (q_nmL0 _) (q_nmS0 _) rfl (pos' := 24) (st' := [.int r6, .int x2, .int r1, .ref 458]) (lI' := []) (lE' := []) rfl rfl rfl rfl ?_
      obtain ⟨r7, hr7, hf⟩ := q_bd hf
      refine q_kV (M2 := m_X1_setLead) (As := [.int r1, .int x2, .int r6]) (b := 458) (v2 := none) ok_X2_tieRope ok_X1_setLead cv_X1_setLead (ct_X1_setLead_458 (d := 2) (Nat.le_refl _) hr7) rfl rfl (Or.inl rfl) rfl rfl rfl rfl (Nat.le_trans (Nat.le_of_ble_eq_true rfl) hd) (Nat.le_of_ble_eq_true rfl) (Nat.le_of_ble_eq_true rfl) (Nat.le_of_ble_eq_true rfl) (fun x hx => absurd hx List.not_mem_nil) (q_nmL0 _) (q_nmS0 _) rfl (pos' := 25) (st' := []) (lI' := [(464, r7)]) (lE' := []) rfl rfl (q_mgw rfl rfl) rfl ?_
      refine q_blk 1 [] (c' := q_kc (t, r, m, z, N, ext, rx, L) I E 26 [some (.ref 457), some (.int x1), some (.int x2), some (.int x3), some (.int r1)] [.int (1 : Int32)] [(464, r7)] []) ok_X2_tieRope rfl q_cn ?_
      cases hf
      exact q_kri ok_X2_tieRope rfl rfl rfl (Nat.le_of_ble_eq_true rfl) (Nat.le_of_ble_eq_true rfl) ⟨rfl, q_hpe (q_pdw [464] rfl rfl) (q_pdw [] rfl rfl)⟩
    · have hf := q_in h5 hf
      refine q_blk 1 [] (c' := q_kc (t, r, m, z, N, ext, rx, L) I E 16 [some (.ref 457), some (.int x1), some (.int x2), some (.int x3), some (.int r1)] [.int (0 : Int32)] [] []) ok_X2_tieRope rfl q_cn ?_
      cases hf
      exact q_kri ok_X2_tieRope rfl rfl rfl (Nat.le_of_ble_eq_true rfl) (Nat.le_of_ble_eq_true rfl) ⟨rfl, q_hpe (q_pdw [464] rfl rfl) (q_pdw [] rfl rfl)⟩
set_option maxHeartbeats 4000000 in
theorem lp_X1_leadCount_L4_458 {g : q_G} {d mc ms : Nat} {h0 : q_H} {Q : (Option Value ⊕ String) → q_H → Prop} {k n : Nat} {t : Nat} {r : Nat} {m : Nat} {z : Nat} {N : Nat} {ext : Nat → q_Sh} {rx : Nat → Nat → Option Nat} {L : Nat → Nat → Int64} (hd : 3 ≤ d) (hk : k ≤ mc) (hn : n ≤ ms)  {v1 : Int32} : ∀ (fu : Nat) {I : Nat → Nat → Int32} {E : Nat → Nat → Option Nat} {v2 : Int32} {v3 : Int32} {r0 : Int32} (hf : f_X1_leadCount_L4 (I 463) (I 464) v1 fu v2 v3 = some r0) (hK0 : q_J g m_X1_leadCount d mc ms h0 [] Q k n (q_kc (t, r, m, z, N, ext, rx, L) I E 18 [none, none, some (.int r0), none] [] [] [])), q_J g m_X1_leadCount d mc ms h0 [] Q k n (4, [some (.ref 458), some (.int v1), some (.int v2), some (.int v3)], [], q_hp (t, r, m, z, N, ext, rx, L) I E) := by
  intro fu
  induction fu with
  | zero =>
    intro I E v2 v3 r0 hf hK0
    rw [f_X1_leadCount_L4] at hf
    cases hf
  | succ fu ih =>
    intro I E v2 v3 r0 hf hK0
    rw [f_X1_leadCount_L4] at hf
    change q_J g m_X1_leadCount d mc ms h0 [] Q k n (q_kc (t, r, m, z, N, ext, rx, L) I E 4 [some (.ref 458), some (.int v1), some (.int v2), some (.int v3)] [] [] [])
    refine q_blk 3 [] (c' := q_kc (t, r, m, z, N, ext, rx, L) I E 7 [some (.ref 458), some (.int v1), some (.int v2), some (.int v3)] [.int v1, .ref 458, .int v3] [] []) ok_X1_leadCount rfl q_cn ?_
    obtain ⟨r1, hr1, hf⟩ := q_bd hf
    refine q_kV (M2 := m_X1_ropes) (As := [.int v1]) (b := 458) (v2 := some (.int r1)) ok_X1_leadCount ok_X1_ropes cv_X1_ropes (ct_X1_ropes_458 (d := 1) (Nat.le_refl _) hr1) rfl rfl (Or.inl rfl) rfl rfl rfl rfl (Nat.le_trans (Nat.le_of_ble_eq_true rfl) hd) hk hn (Nat.le_of_ble_eq_true rfl) (fun x hx => absurd hx List.not_mem_nil) (q_nmL0 _) (q_nmS0 _) rfl (pos' := 8) (st' := [.int r1, .int v3]) (lI' := []) (lE' := []) rfl rfl rfl rfl ?_
    refine q_blf 0 [] (a := q_kc (t, r, m, z, N, ext, rx, L) I E 18 [some (.ref 458), some (.int v1), some (.int v2), some (.int v3)] [] [] []) (b := q_kc (t, r, m, z, N, ext, rx, L) I E 9 [some (.ref 458), some (.int v1), some (.int v2), some (.int v3)] [] [] []) (P := r1 ≤ v3) ok_X1_leadCount rfl q_cn (fun h2 => ?_) (fun h2 => ?_)
    · have hf := q_ip h2 hf
      refine q_less (ls' := [none, none, some (.int v2), none]) (q_sb1 (q_sb1 (q_sb2 (q_sb1 q_sb0)))) ?_
      cases hf
      exact q_Jpad (q_pdw [] rfl rfl) (q_pdw [] rfl rfl) hK0
    · have hf := q_in h2 hf
      refine q_blk 3 [] (c' := q_kc (t, r, m, z, N, ext, rx, L) I E 12 [some (.ref 458), some (.int v1), some (.int v2), some (.int v3)] [.int v3, .int v1, .ref 458] [] []) ok_X1_leadCount rfl q_cn ?_
      obtain ⟨r3, hr3, hf⟩ := q_bd hf
      refine q_kV (M2 := m_X1_lead) (As := [.int v1, .int v3]) (b := 458) (v2 := some (.int r3)) ok_X1_leadCount ok_X1_lead cv_X1_lead (ct_X1_lead_458 (d := 2) (Nat.le_refl _) hr3) rfl rfl (Or.inl rfl) rfl rfl rfl rfl (Nat.le_trans (Nat.le_of_ble_eq_true rfl) hd) hk hn (Nat.le_of_ble_eq_true rfl) (fun x hx => absurd hx List.not_mem_nil) (q_nmL0 _) (q_nmS0 _) rfl (pos' := 13) (st' := [.int r3]) (lI' := []) (lE' := []) rfl rfl rfl rfl ?_
      refine q_blf 1 [] (a := q_kc (t, r, m, z, N, ext, rx, L) I E 16 [some (.ref 458), some (.int v1), some (.int v2), some (.int v3)] [] [] []) (b := q_kc (t, r, m, z, N, ext, rx, L) I E 15 [some (.ref 458), some (.int v1), some (.int v2), some (.int v3)] [] [] []) (P := r3 = (-1 : Int32)) ok_X1_leadCount rfl q_cn (fun h4 => ?_) (fun h4 => ?_)
      · have hf := q_ip h4 hf
        refine q_blk 2 [] (c' := q_kc (t, r, m, z, N, ext, rx, L) I E 4 [some (.ref 458), some (.int v1), some (.int v2), some (.int (v3 + 1))] [] [] []) ok_X1_leadCount rfl q_cn ?_
        exact ih (I := q_ws I []) (E := q_ws E []) hf (q_Jmrg (q_mgw rfl rfl) (q_mgw rfl rfl) hK0)
      · have hf := q_in h4 hf
        refine q_blk 3 [] (c' := q_kc (t, r, m, z, N, ext, rx, L) I E 4 [some (.ref 458), some (.int v1), some (.int (v2 + 1)), some (.int (v3 + 1))] [] [] []) ok_X1_leadCount rfl q_cn ?_
        exact ih (I := q_ws I []) (E := q_ws E []) hf (q_Jmrg (q_mgw rfl rfl) (q_mgw rfl rfl) hK0)
set_option maxHeartbeats 4000000 in
theorem ct_X1_leadCount_458 {g : q_G} {t : Nat} {r : Nat} {m : Nat} {z : Nat} {N : Nat} {ext : Nat → q_Sh} {rx : Nat → Nat → Option Nat} {L : Nat → Nat → Int64} {d : Nat} (hd : 3 ≤ d)  {I : Nat → Nat → Int32} {E : Nat → Nat → Option Nat} {x1 : Int32} {r0 : Int32} (hf : f_X1_leadCount (I 463) (I 464) x1 = some r0) : q_Ct g m_X1_leadCount d 0 0 [] [.ref 458, .int x1] (q_hp (t, r, m, z, N, ext, rx, L) I E) (fun o h' => o = .inl (some (.int r0)) ∧ h' = q_hp (t, r, m, z, N, ext, rx, L) (q_ws I []) (q_ws E [])) := by
  rw [f_X1_leadCount] at hf
  refine q_Ct_of ok_X1_leadCount (Nat.le_of_ble_eq_true rfl) ?_ _ rfl rfl
  change q_J g m_X1_leadCount d 0 0 _ [] _ 0 0 (q_kc (t, r, m, z, N, ext, rx, L) I E 0 [some (.ref 458), some (.int x1), none, none] [] [] [])
  refine q_blk 4 [] (c' := q_kc (t, r, m, z, N, ext, rx, L) I E 4 [some (.ref 458), some (.int x1), some (.int (0 : Int32)), some (.int (0 : Int32))] [] [] []) ok_X1_leadCount rfl q_cn ?_
  obtain ⟨r5, hr5, hf⟩ := q_bd hf
  refine lp_X1_leadCount_L4_458 (I := q_ws I []) (E := q_ws E []) hd (Nat.le_of_ble_eq_true rfl) (Nat.le_of_ble_eq_true rfl) 4096 hr5 ?_
  refine q_Jmrg (lI' := []) (lE' := []) (q_mgw rfl rfl) (q_mgw rfl rfl) ?_
  refine q_blk 1 [] (c' := q_kc (t, r, m, z, N, ext, rx, L) I E 19 [none, none, some (.int r5), none] [.int r5] [] []) ok_X1_leadCount rfl q_cn ?_
  cases hf
  exact q_kri ok_X1_leadCount rfl rfl rfl (Nat.le_of_ble_eq_true rfl) (Nat.le_of_ble_eq_true rfl) ⟨rfl, q_hpe (q_pdw [] rfl rfl) (q_pdw [] rfl rfl)⟩
set_option maxHeartbeats 4000000 in
theorem ct_X12_tie_400 {g : q_G} {t : Nat} {r : Nat} {m : Nat} {z : Nat} {N : Nat} {ext : Nat → q_Sh} {rx : Nat → Nat → Option Nat} {L : Nat → Nat → Int64} {d : Nat} (hd : 7 ≤ d)  {I : Nat → Nat → Int32} {E : Nat → Nat → Option Nat} {x1 : Int32} {x2 : Int32} {x3 : Int32} {r0 : (Int32 ⊕ String) × (Nat → Int32)} (hf : f_X12_tie (I 402) (I 463) (I 464) (I 470) x1 x2 x3 = some r0) : q_Ct g m_X12_tie d 3 18 [] [.ref 400, .int x1, .int x2, .int x3] (q_hp (t, r, m, z, N, ext, rx, L) I E) (fun o h' => o = q_oI r0.1 ∧ h' = q_hp (t, r, m, z, N, ext, rx, L) (q_ws I [(464, r0.2)]) (q_ws E [])) := by
  rw [f_X12_tie] at hf
  refine q_Ct_of ok_X12_tie (Nat.le_of_ble_eq_true rfl) ?_ _ rfl rfl
  change q_J g m_X12_tie d 3 18 _ [] _ 0 0 (q_kc (t, r, m, z, N, ext, rx, L) I E 0 [some (.ref 400), some (.int x1), some (.int x2), some (.int x3)] [] [] [])
  refine q_blk 2 [] (c' := q_kc (t, r, m, z, N, ext, rx, L) I E 2 [some (.ref 400), some (.int x1), some (.int x2), some (.int x3)] [.int x1, .ref 400] [] []) ok_X12_tie rfl q_cn ?_
  obtain ⟨r1, hr1, hf⟩ := q_bd hf
  cases hv4 : r1 with
  | inl v2 =>
    have hf := q_sm0 hv4 hf
    refine q_kV (M2 := m_X12_checkHook) (As := [.int x1]) (b := 400) (v2 := none) ok_X12_tie ok_X12_checkHook cv_X12_checkHook (ct_X12_checkHook_400 (d := 6) (Nat.le_refl _) hr1) (q_oVl hv4) rfl (Or.inl rfl) rfl rfl rfl rfl (Nat.le_trans (Nat.le_of_ble_eq_true rfl) hd) (Nat.le_of_ble_eq_true rfl) (Nat.le_of_ble_eq_true rfl) (Nat.le_of_ble_eq_true rfl) (fun x hx => absurd hx List.not_mem_nil) (q_nmL0 _) (q_nmS0 _) rfl (pos' := 3) (st' := []) (lI' := []) (lE' := []) rfl rfl rfl rfl ?_
    refine q_blk 2 [] (c' := q_kc (t, r, m, z, N, ext, rx, L) I E 5 [some (.ref 400), some (.int x1), some (.int x2), some (.int x3)] [.int x3, .ref 400] [] []) ok_X12_tie rfl q_cn ?_
    obtain ⟨r5, hr5, hf⟩ := q_bd hf
    cases hv8 : r5 with
    | inl v6 =>
      have hf := q_sm0 hv8 hf
      refine q_kV (M2 := m_X12_checkHook) (As := [.int x3]) (b := 400) (v2 := none) ok_X12_tie ok_X12_checkHook cv_X12_checkHook (ct_X12_checkHook_400 (d := 6) (Nat.le_refl _) hr5) (q_oVl hv8) rfl (Or.inl rfl) rfl rfl rfl rfl (Nat.le_trans (Nat.le_of_ble_eq_true rfl) hd) (Nat.le_of_ble_eq_true rfl) (Nat.le_of_ble_eq_true rfl) (Nat.le_of_ble_eq_true rfl) (fun x hx => absurd hx List.not_mem_nil) (q_nmL0 _) (q_nmS0 _) rfl (pos' := 6) (st' := []) (lI' := []) (lE' := []) rfl rfl rfl rfl ?_
      refine q_blk 5 [] (c' := q_kc (t, r, m, z, N, ext, rx, L) I E 11 [some (.ref 400), some (.int x1), some (.int x2), some (.int x3)] [.int x3, .int x2, .int x1, .ref 457] [] []) ok_X12_tie rfl q_cn ?_
      obtain ⟨r9, hr9, hf⟩ := q_bd hf
      refine q_kV (M2 := m_X2_tieRope) (As := [.int x1, .int x2, .int x3]) (b := 457) (v2 := some (.int (q_bz r9.1))) ok_X12_tie ok_X2_tieRope cv_X2_tieRope (ct_X2_tieRope_457 (d := 3) (Nat.le_refl _) hr9) rfl rfl (Or.inl rfl) rfl rfl rfl rfl (Nat.le_trans (Nat.le_of_ble_eq_true rfl) hd) (Nat.le_of_ble_eq_true rfl) (Nat.le_of_ble_eq_true rfl) (Nat.le_of_ble_eq_true rfl) (fun x hx => absurd hx List.not_mem_nil) (q_nmL0 _) (q_nmS0 _) rfl (pos' := 12) (st' := [.int (q_bz r9.1)]) (lI' := [(464, r9.2)]) (lE' := []) rfl rfl (q_mgw rfl rfl) rfl ?_
      refine q_blf 0 [] (a := q_kc (t, r, m, z, N, ext, rx, L) I E 18 [some (.ref 400), some (.int x1), some (.int x2), some (.int x3)] [] [(464, r9.2)] []) (b := q_kc (t, r, m, z, N, ext, rx, L) I E 13 [some (.ref 400), some (.int x1), some (.int x2), some (.int x3)] [] [(464, r9.2)] []) (P := ¬ (q_bz r9.1) = 0) ok_X12_tie rfl q_cn (fun h10 => ?_) (fun h10 => ?_)
      · have hf := q_ip h10 hf
        refine q_blk 6 [] (c' := q_kc (t, r, m, z, N, ext, rx, L) I E 24 [some (.ref 400), some (.int x1), some (.int x2), some (.int x3)] [.int x1, .ref 457, .ref 458] [(464, r9.2)] []) ok_X12_tie rfl q_cn ?_
        obtain ⟨r11, hr11, hf⟩ := q_bd hf
        refine q_kV (M2 := m_X2_held) (As := [.int x1]) (b := 457) (v2 := some (.int r11)) ok_X12_tie ok_X2_held cv_X2_held (ct_X2_held_457 (d := 1) (Nat.le_refl _) hr11) rfl rfl (Or.inl rfl) rfl rfl rfl rfl (Nat.le_trans (Nat.le_of_ble_eq_true rfl) hd) (Nat.le_of_ble_eq_true rfl) (Nat.le_of_ble_eq_true rfl) (Nat.le_of_ble_eq_true rfl) (fun x hx => absurd hx List.not_mem_nil) (q_nmL0 _) (q_nmS0 _) rfl (pos' := 25) (st' := [.int r11, .ref 458]) (lI' := [(464, r9.2)]) (lE' := []) rfl rfl rfl rfl ?_
        obtain ⟨r12, hr12, hf⟩ := q_bd hf
        refine q_kV (M2 := m_X1_leadCount) (As := [.int r11]) (b := 458) (v2 := some (.int r12)) ok_X12_tie ok_X1_leadCount cv_X1_leadCount (ct_X1_leadCount_458 (d := 3) (Nat.le_refl _) hr12) rfl rfl (Or.inl rfl) rfl rfl rfl rfl (Nat.le_trans (Nat.le_of_ble_eq_true rfl) hd) (Nat.le_of_ble_eq_true rfl) (Nat.le_of_ble_eq_true rfl) (Nat.le_of_ble_eq_true rfl) (fun x hx => absurd hx List.not_mem_nil) (q_nmL0 _) (q_nmS0 _) rfl (pos' := 26) (st' := [.int r12]) (lI' := [(464, r9.2)]) (lE' := []) rfl rfl rfl rfl ?_
        cases hf
        exact q_kri ok_X12_tie rfl rfl rfl (Nat.le_of_ble_eq_true rfl) (Nat.le_of_ble_eq_true rfl) ⟨rfl, q_hpe (q_pdw [464] rfl rfl) (q_pdw [] rfl rfl)⟩
      · have hf := q_in h10 hf
        cases hf
        exact q_o_throwS ok_X12_tie rfl rfl rfl rfl rfl rfl q_inISE msg_7 thr_0 q_fitISE q_fits (Nat.le_trans (Nat.le_of_ble_eq_true rfl) hd) (Nat.le_of_ble_eq_true rfl) (Nat.le_of_ble_eq_true rfl) (Nat.le_of_ble_eq_true rfl) ⟨rfl, q_hpe (q_pdw [464] rfl rfl) (q_pdw [] rfl rfl)⟩
    | inr e7 =>
      have hf := q_sm1 hv8 hf
      cases hf
      refine q_kVx (M2 := m_X12_checkHook) (As := [.int x3]) (b := 400) ok_X12_tie ok_X12_checkHook cv_X12_checkHook (ct_X12_checkHook_400 (d := 6) (Nat.le_refl _) hr5) (q_oVr hv8) rfl (Or.inl rfl) rfl rfl rfl rfl (Nat.le_trans (Nat.le_of_ble_eq_true rfl) hd) (Nat.le_of_ble_eq_true rfl) (Nat.le_of_ble_eq_true rfl) (Nat.le_of_ble_eq_true rfl) (fun x hx => absurd hx List.not_mem_nil) (q_nmL0 _) (q_nmS0 _) rfl (lI' := []) (lE' := []) rfl rfl ⟨rfl, q_hpe (q_pdw [464] rfl rfl) (q_pdw [] rfl rfl)⟩
  | inr e3 =>
    have hf := q_sm1 hv4 hf
    cases hf
    refine q_kVx (M2 := m_X12_checkHook) (As := [.int x1]) (b := 400) ok_X12_tie ok_X12_checkHook cv_X12_checkHook (ct_X12_checkHook_400 (d := 6) (Nat.le_refl _) hr1) (q_oVr hv4) rfl (Or.inl rfl) rfl rfl rfl rfl (Nat.le_trans (Nat.le_of_ble_eq_true rfl) hd) (Nat.le_of_ble_eq_true rfl) (Nat.le_of_ble_eq_true rfl) (Nat.le_of_ble_eq_true rfl) (fun x hx => absurd hx List.not_mem_nil) (q_nmL0 _) (q_nmS0 _) rfl (lI' := []) (lE' := []) rfl rfl ⟨rfl, q_hpe (q_pdw [464] rfl rfl) (q_pdw [] rfl rfl)⟩
set_option maxHeartbeats 4000000 in
theorem ct_X2_followRope_457 {g : q_G} {t : Nat} {r : Nat} {m : Nat} {z : Nat} {N : Nat} {ext : Nat → q_Sh} {rx : Nat → Nat → Option Nat} {L : Nat → Nat → Int64} {d : Nat} (hd : 3 ≤ d)  {I : Nat → Nat → Int32} {E : Nat → Nat → Option Nat} {x1 : Int32} {x2 : Int32} {x3 : Int32} {r0 : Bool × (Nat → Int32)} (hf : f_X2_followRope (I 463) (I 464) (I 470) x1 x2 x3 = some r0) : q_Ct g m_X2_followRope d 0 0 [] [.ref 457, .int x1, .int x2, .int x3] (q_hp (t, r, m, z, N, ext, rx, L) I E) (fun o h' => o = .inl (some (.int (q_bz r0.1))) ∧ h' = q_hp (t, r, m, z, N, ext, rx, L) (q_ws I [(470, r0.2)]) (q_ws E [])) := by
  rw [f_X2_followRope] at hf
  refine q_Ct_of ok_X2_followRope (Nat.le_of_ble_eq_true rfl) ?_ _ rfl rfl
  change q_J g m_X2_followRope d 0 0 _ [] _ 0 0 (q_kc (t, r, m, z, N, ext, rx, L) I E 0 [some (.ref 457), some (.int x1), some (.int x2), some (.int x3), none] [] [] [])
  refine q_blk 4 [] (c' := q_kc (t, r, m, z, N, ext, rx, L) I E 4 [some (.ref 457), some (.int x1), some (.int x2), some (.int x3), none] [.int x2, .ref 457, .ref 458] [] []) ok_X2_followRope rfl q_cn ?_
  obtain ⟨r1, hr1, hf⟩ := q_bd hf
  refine q_kV (M2 := m_X2_held) (As := [.int x2]) (b := 457) (v2 := some (.int r1)) ok_X2_followRope ok_X2_held cv_X2_held (ct_X2_held_457 (d := 1) (Nat.le_refl _) hr1) rfl rfl (Or.inl rfl) rfl rfl rfl rfl (Nat.le_trans (Nat.le_of_ble_eq_true rfl) hd) (Nat.le_of_ble_eq_true rfl) (Nat.le_of_ble_eq_true rfl) (Nat.le_of_ble_eq_true rfl) (fun x hx => absurd hx List.not_mem_nil) (q_nmL0 _) (q_nmS0 _) rfl (pos' := 5) (st' := [.int r1, .ref 458]) (lI' := []) (lE' := []) rfl rfl rfl rfl ?_
  refine q_blk 1 [] (c' := q_kc (t, r, m, z, N, ext, rx, L) I E 6 [some (.ref 457), some (.int x1), some (.int x2), some (.int x3), none] [.int x3, .int r1, .ref 458] [] []) ok_X2_followRope rfl q_cn ?_
  obtain ⟨r2, hr2, hf⟩ := q_bd hf
  refine q_kV (M2 := m_X1_lead) (As := [.int r1, .int x3]) (b := 458) (v2 := some (.int r2)) ok_X2_followRope ok_X1_lead cv_X1_lead (ct_X1_lead_458 (d := 2) (Nat.le_refl _) hr2) rfl rfl (Or.inl rfl) rfl rfl rfl rfl (Nat.le_trans (Nat.le_of_ble_eq_true rfl) hd) (Nat.le_of_ble_eq_true rfl) (Nat.le_of_ble_eq_true rfl) (Nat.le_of_ble_eq_true rfl) (fun x hx => absurd hx List.not_mem_nil) (q_nmL0 _) (q_nmS0 _) rfl (pos' := 7) (st' := [.int r2]) (lI' := []) (lE' := []) rfl rfl rfl rfl ?_
  refine q_blf 3 [] (a := q_kc (t, r, m, z, N, ext, rx, L) I E 13 [some (.ref 457), some (.int x1), some (.int x2), some (.int x3), some (.int r2)] [] [] []) (b := q_kc (t, r, m, z, N, ext, rx, L) I E 11 [some (.ref 457), some (.int x1), some (.int x2), some (.int x3), some (.int r2)] [] [] []) (P := ¬ r2 = (-1 : Int32)) ok_X2_followRope rfl q_cn (fun h3 => ?_) (fun h3 => ?_)
  · have hf := q_ip h3 hf
    refine q_blk 3 [] (c' := q_kc (t, r, m, z, N, ext, rx, L) I E 16 [some (.ref 457), some (.int x1), some (.int x2), some (.int x3), some (.int r2)] [.int r2, .int x1, .ref 457] [] []) ok_X2_followRope rfl q_cn ?_
    obtain ⟨r4, hr4, hf⟩ := q_bd hf
    refine q_kV (M2 := m_X2_hold) (As := [.int x1, .int r2]) (b := 457) (v2 := none) ok_X2_followRope ok_X2_hold cv_X2_hold (ct_X2_hold_457 (d := 1) (Nat.le_refl _) hr4) rfl rfl (Or.inl rfl) rfl rfl rfl rfl (Nat.le_trans (Nat.le_of_ble_eq_true rfl) hd) (Nat.le_of_ble_eq_true rfl) (Nat.le_of_ble_eq_true rfl) (Nat.le_of_ble_eq_true rfl) (fun x hx => absurd hx List.not_mem_nil) (q_nmL0 _) (q_nmS0 _) rfl (pos' := 17) (st' := []) (lI' := [(470, r4)]) (lE' := []) rfl rfl (q_mgw rfl rfl) rfl ?_
    refine q_blk 1 [] (c' := q_kc (t, r, m, z, N, ext, rx, L) I E 18 [some (.ref 457), some (.int x1), some (.int x2), some (.int x3), some (.int r2)] [.int (1 : Int32)] [(470, r4)] []) ok_X2_followRope rfl q_cn ?_
    cases hf
    exact q_kri ok_X2_followRope rfl rfl rfl (Nat.le_of_ble_eq_true rfl) (Nat.le_of_ble_eq_true rfl) ⟨rfl, q_hpe (q_pdw [470] rfl rfl) (q_pdw [] rfl rfl)⟩
  · have hf := q_in h3 hf
    refine q_blk 1 [] (c' := q_kc (t, r, m, z, N, ext, rx, L) I E 12 [some (.ref 457), some (.int x1), some (.int x2), some (.int x3), some (.int r2)] [.int (0 : Int32)] [] []) ok_X2_followRope rfl q_cn ?_
    cases hf
    exact q_kri ok_X2_followRope rfl rfl rfl (Nat.le_of_ble_eq_true rfl) (Nat.le_of_ble_eq_true rfl) ⟨rfl, q_hpe (q_pdw [470] rfl rfl) (q_pdw [] rfl rfl)⟩
set_option maxHeartbeats 4000000 in
theorem ct_X12_follow_400 {g : q_G} {t : Nat} {r : Nat} {m : Nat} {z : Nat} {N : Nat} {ext : Nat → q_Sh} {rx : Nat → Nat → Option Nat} {L : Nat → Nat → Int64} {d : Nat} (hd : 7 ≤ d)  {I : Nat → Nat → Int32} {E : Nat → Nat → Option Nat} {x1 : Int32} {x2 : Int32} {x3 : Int32} {r0 : (Int32 ⊕ String) × (Nat → Int32)} (hf : f_X12_follow (I 402) (I 460) (I 463) (I 464) (I 470) x1 x2 x3 = some r0) : q_Ct g m_X12_follow d 3 18 [] [.ref 400, .int x1, .int x2, .int x3] (q_hp (t, r, m, z, N, ext, rx, L) I E) (fun o h' => o = q_oI r0.1 ∧ h' = q_hp (t, r, m, z, N, ext, rx, L) (q_ws I [(470, r0.2)]) (q_ws E [])) := by
  rw [f_X12_follow] at hf
  refine q_Ct_of ok_X12_follow (Nat.le_of_ble_eq_true rfl) ?_ _ rfl rfl
  change q_J g m_X12_follow d 3 18 _ [] _ 0 0 (q_kc (t, r, m, z, N, ext, rx, L) I E 0 [some (.ref 400), some (.int x1), some (.int x2), some (.int x3)] [] [] [])
  refine q_blk 2 [] (c' := q_kc (t, r, m, z, N, ext, rx, L) I E 2 [some (.ref 400), some (.int x1), some (.int x2), some (.int x3)] [.int x1, .ref 400] [] []) ok_X12_follow rfl q_cn ?_
  obtain ⟨r1, hr1, hf⟩ := q_bd hf
  cases hv4 : r1 with
  | inl v2 =>
    have hf := q_sm0 hv4 hf
    refine q_kV (M2 := m_X12_checkHook) (As := [.int x1]) (b := 400) (v2 := none) ok_X12_follow ok_X12_checkHook cv_X12_checkHook (ct_X12_checkHook_400 (d := 6) (Nat.le_refl _) hr1) (q_oVl hv4) rfl (Or.inl rfl) rfl rfl rfl rfl (Nat.le_trans (Nat.le_of_ble_eq_true rfl) hd) (Nat.le_of_ble_eq_true rfl) (Nat.le_of_ble_eq_true rfl) (Nat.le_of_ble_eq_true rfl) (fun x hx => absurd hx List.not_mem_nil) (q_nmL0 _) (q_nmS0 _) rfl (pos' := 3) (st' := []) (lI' := []) (lE' := []) rfl rfl rfl rfl ?_
    refine q_blk 2 [] (c' := q_kc (t, r, m, z, N, ext, rx, L) I E 5 [some (.ref 400), some (.int x1), some (.int x2), some (.int x3)] [.int x2, .ref 400] [] []) ok_X12_follow rfl q_cn ?_
    obtain ⟨r5, hr5, hf⟩ := q_bd hf
    cases hv8 : r5 with
    | inl v6 =>
      have hf := q_sm0 hv8 hf
      refine q_kV (M2 := m_X12_checkHook) (As := [.int x2]) (b := 400) (v2 := none) ok_X12_follow ok_X12_checkHook cv_X12_checkHook (ct_X12_checkHook_400 (d := 6) (Nat.le_refl _) hr5) (q_oVl hv8) rfl (Or.inl rfl) rfl rfl rfl rfl (Nat.le_trans (Nat.le_of_ble_eq_true rfl) hd) (Nat.le_of_ble_eq_true rfl) (Nat.le_of_ble_eq_true rfl) (Nat.le_of_ble_eq_true rfl) (fun x hx => absurd hx List.not_mem_nil) (q_nmL0 _) (q_nmS0 _) rfl (pos' := 6) (st' := []) (lI' := []) (lE' := []) rfl rfl rfl rfl ?_
      refine q_blk 5 [] (c' := q_kc (t, r, m, z, N, ext, rx, L) I E 11 [some (.ref 400), some (.int x1), some (.int x2), some (.int x3)] [.int x3, .int x2, .int x1, .ref 457] [] []) ok_X12_follow rfl q_cn ?_
      obtain ⟨r9, hr9, hf⟩ := q_bd hf
      refine q_kV (M2 := m_X2_followRope) (As := [.int x1, .int x2, .int x3]) (b := 457) (v2 := some (.int (q_bz r9.1))) ok_X12_follow ok_X2_followRope cv_X2_followRope (ct_X2_followRope_457 (d := 3) (Nat.le_refl _) hr9) rfl rfl (Or.inl rfl) rfl rfl rfl rfl (Nat.le_trans (Nat.le_of_ble_eq_true rfl) hd) (Nat.le_of_ble_eq_true rfl) (Nat.le_of_ble_eq_true rfl) (Nat.le_of_ble_eq_true rfl) (fun x hx => absurd hx List.not_mem_nil) (q_nmL0 _) (q_nmS0 _) rfl (pos' := 12) (st' := [.int (q_bz r9.1)]) (lI' := [(470, r9.2)]) (lE' := []) rfl rfl (q_mgw rfl rfl) rfl ?_
      refine q_blf 0 [] (a := q_kc (t, r, m, z, N, ext, rx, L) I E 18 [some (.ref 400), some (.int x1), some (.int x2), some (.int x3)] [] [(470, r9.2)] []) (b := q_kc (t, r, m, z, N, ext, rx, L) I E 13 [some (.ref 400), some (.int x1), some (.int x2), some (.int x3)] [] [(470, r9.2)] []) (P := ¬ (q_bz r9.1) = 0) ok_X12_follow rfl q_cn (fun h10 => ?_) (fun h10 => ?_)
      · have hf := q_ip h10 hf
        refine q_blk 6 [] (c' := q_kc (t, r, m, z, N, ext, rx, L) I E 24 [some (.ref 400), some (.int x1), some (.int x2), some (.int x3)] [.int x1, .ref 457, .ref 458] [(470, r9.2)] []) ok_X12_follow rfl q_cn ?_
        obtain ⟨r11, hr11, hf⟩ := q_bd hf
        refine q_kV (M2 := m_X2_held) (As := [.int x1]) (b := 457) (v2 := some (.int r11)) ok_X12_follow ok_X2_held cv_X2_held (ct_X2_held_457 (d := 1) (Nat.le_refl _) hr11) rfl rfl (Or.inl rfl) rfl rfl rfl rfl (Nat.le_trans (Nat.le_of_ble_eq_true rfl) hd) (Nat.le_of_ble_eq_true rfl) (Nat.le_of_ble_eq_true rfl) (Nat.le_of_ble_eq_true rfl) (fun x hx => absurd hx List.not_mem_nil) (q_nmL0 _) (q_nmS0 _) rfl (pos' := 25) (st' := [.int r11, .ref 458]) (lI' := [(470, r9.2)]) (lE' := []) rfl rfl rfl rfl ?_
        obtain ⟨r12, hr12, hf⟩ := q_bd hf
        refine q_kV (M2 := m_X1_place) (As := [.int r11]) (b := 458) (v2 := some (.int r12)) ok_X12_follow ok_X1_place cv_X1_place (ct_X1_place_458 (d := 1) (Nat.le_refl _) hr12) rfl rfl (Or.inl rfl) rfl rfl rfl rfl (Nat.le_trans (Nat.le_of_ble_eq_true rfl) hd) (Nat.le_of_ble_eq_true rfl) (Nat.le_of_ble_eq_true rfl) (Nat.le_of_ble_eq_true rfl) (fun x hx => absurd hx List.not_mem_nil) (q_nmL0 _) (q_nmS0 _) rfl (pos' := 26) (st' := [.int r12]) (lI' := [(470, r9.2)]) (lE' := []) rfl rfl rfl rfl ?_
        cases hf
        exact q_kri ok_X12_follow rfl rfl rfl (Nat.le_of_ble_eq_true rfl) (Nat.le_of_ble_eq_true rfl) ⟨rfl, q_hpe (q_pdw [470] rfl rfl) (q_pdw [] rfl rfl)⟩
      · have hf := q_in h10 hf
        cases hf
        exact q_o_throwS ok_X12_follow rfl rfl rfl rfl rfl rfl q_inISE msg_8 thr_0 q_fitISE q_fits (Nat.le_trans (Nat.le_of_ble_eq_true rfl) hd) (Nat.le_of_ble_eq_true rfl) (Nat.le_of_ble_eq_true rfl) (Nat.le_of_ble_eq_true rfl) ⟨rfl, q_hpe (q_pdw [470] rfl rfl) (q_pdw [] rfl rfl)⟩
    | inr e7 =>
      have hf := q_sm1 hv8 hf
      cases hf
      refine q_kVx (M2 := m_X12_checkHook) (As := [.int x2]) (b := 400) ok_X12_follow ok_X12_checkHook cv_X12_checkHook (ct_X12_checkHook_400 (d := 6) (Nat.le_refl _) hr5) (q_oVr hv8) rfl (Or.inl rfl) rfl rfl rfl rfl (Nat.le_trans (Nat.le_of_ble_eq_true rfl) hd) (Nat.le_of_ble_eq_true rfl) (Nat.le_of_ble_eq_true rfl) (Nat.le_of_ble_eq_true rfl) (fun x hx => absurd hx List.not_mem_nil) (q_nmL0 _) (q_nmS0 _) rfl (lI' := []) (lE' := []) rfl rfl ⟨rfl, q_hpe (q_pdw [470] rfl rfl) (q_pdw [] rfl rfl)⟩
  | inr e3 =>
    have hf := q_sm1 hv4 hf
    cases hf
    refine q_kVx (M2 := m_X12_checkHook) (As := [.int x1]) (b := 400) ok_X12_follow ok_X12_checkHook cv_X12_checkHook (ct_X12_checkHook_400 (d := 6) (Nat.le_refl _) hr1) (q_oVr hv4) rfl (Or.inl rfl) rfl rfl rfl rfl (Nat.le_trans (Nat.le_of_ble_eq_true rfl) hd) (Nat.le_of_ble_eq_true rfl) (Nat.le_of_ble_eq_true rfl) (Nat.le_of_ble_eq_true rfl) (fun x hx => absurd hx List.not_mem_nil) (q_nmL0 _) (q_nmS0 _) rfl (lI' := []) (lE' := []) rfl rfl ⟨rfl, q_hpe (q_pdw [470] rfl rfl) (q_pdw [] rfl rfl)⟩
