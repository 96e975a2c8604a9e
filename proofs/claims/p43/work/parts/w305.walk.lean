set_option maxHeartbeats 4000000 in
theorem ct_X2_dropBale_457 {g : q_G} {t : Nat} {r : Nat} {m : Nat} {z : Nat} {N : Nat} {ext : Nat → q_Sh} {rx : Nat → Nat → Option Nat} {L : Nat → Nat → Int64} {d : Nat} (hd : 2 ≤ d)  {I : Nat → Nat → Int32} {E : Nat → Nat → Option Nat} {x1 : Int32} {r0 : Bool × (Nat → Int32)} (hf : f_X2_dropBale (I 470) x1 = some r0) : q_Ct g m_X2_dropBale d 0 0 [] [.ref 457, .int x1] (q_hp (t, r, m, z, N, ext, rx, L) I E) (fun o h' => o = .inl (some (.int (q_bz r0.1))) ∧ h' = q_hp (t, r, m, z, N, ext, rx, L) (q_ws I [(470, r0.2)]) (q_ws E [])) := by
  rw [f_X2_dropBale] at hf
  refine q_Ct_of ok_X2_dropBale (Nat.le_of_ble_eq_true rfl) ?_ _ rfl rfl
  change q_J g m_X2_dropBale d 0 0 _ [] _ 0 0 (q_kc (t, r, m, z, N, ext, rx, L) I E 0 [some (.ref 457), some (.int x1)] [] [] [])
  refine q_blk 2 [] (c' := q_kc (t, r, m, z, N, ext, rx, L) I E 2 [some (.ref 457), some (.int x1)] [.int x1, .ref 457] [] []) ok_X2_dropBale rfl q_cn ?_
  obtain ⟨r1, hr1, hf⟩ := q_bd hf
  refine q_kV (M2 := m_X2_held) (As := [.int x1]) (b := 457) (v2 := some (.int r1)) ok_X2_dropBale ok_X2_held cv_X2_held (ct_X2_held_457 (d := 1) (Nat.le_refl _) hr1) rfl rfl (Or.inl rfl) rfl rfl rfl rfl (Nat.le_trans (Nat.le_of_ble_eq_true rfl) hd) (Nat.le_of_ble_eq_true rfl) (Nat.le_of_ble_eq_true rfl) (Nat.le_of_ble_eq_true rfl) (fun x hx => absurd hx List.not_mem_nil) (q_nmL0 _) (q_nmS0 _) rfl (pos' := 3) (st' := [.int r1]) (lI' := []) (lE' := []) rfl rfl rfl rfl ?_
  refine q_blf 1 [] (a := q_kc (t, r, m, z, N, ext, rx, L) I E 7 [some (.ref 457), some (.int x1)] [] [] []) (b := q_kc (t, r, m, z, N, ext, rx, L) I E 5 [some (.ref 457), some (.int x1)] [] [] []) (P := ¬ r1 = (-1 : Int32)) ok_X2_dropBale rfl q_cn (fun h2 => ?_) (fun h2 => ?_)
  · have hf := q_ip h2 hf
    refine q_blk 3 [] (c' := q_kc (t, r, m, z, N, ext, rx, L) I E 10 [some (.ref 457), some (.int x1)] [.int (-1 : Int32), .int x1, .ref 457] [] []) ok_X2_dropBale rfl q_cn ?_
    obtain ⟨r3, hr3, hf⟩ := q_bd hf
    refine q_kV (M2 := m_X2_hold) (As := [.int x1, .int (-1 : Int32)]) (b := 457) (v2 := none) ok_X2_dropBale ok_X2_hold cv_X2_hold (ct_X2_hold_457 (d := 1) (Nat.le_refl _) hr3) rfl rfl (Or.inl rfl) rfl rfl rfl rfl (Nat.le_trans (Nat.le_of_ble_eq_true rfl) hd) (Nat.le_of_ble_eq_true rfl) (Nat.le_of_ble_eq_true rfl) (Nat.le_of_ble_eq_true rfl) (fun x hx => absurd hx List.not_mem_nil) (q_nmL0 _) (q_nmS0 _) rfl (pos' := 11) (st' := []) (lI' := [(470, r3)]) (lE' := []) rfl rfl (q_mgw rfl rfl) rfl ?_
    refine q_blk 1 [] (c' := q_kc (t, r, m, z, N, ext, rx, L) I E 12 [some (.ref 457), some (.int x1)] [.int (1 : Int32)] [(470, r3)] []) ok_X2_dropBale rfl q_cn ?_
    cases hf
    exact q_kri ok_X2_dropBale rfl rfl rfl (Nat.le_of_ble_eq_true rfl) (Nat.le_of_ble_eq_true rfl) ⟨rfl, q_hpe (q_pdw [470] rfl rfl) (q_pdw [] rfl rfl)⟩
  · have hf := q_in h2 hf
    refine q_blk 1 [] (c' := q_kc (t, r, m, z, N, ext, rx, L) I E 6 [some (.ref 457), some (.int x1)] [.int (0 : Int32)] [] []) ok_X2_dropBale rfl q_cn ?_
    cases hf
    exact q_kri ok_X2_dropBale rfl rfl rfl (Nat.le_of_ble_eq_true rfl) (Nat.le_of_ble_eq_true rfl) ⟨rfl, q_hpe (q_pdw [470] rfl rfl) (q_pdw [] rfl rfl)⟩
set_option maxHeartbeats 4000000 in
theorem ct_X12_drop_400 {g : q_G} {t : Nat} {r : Nat} {m : Nat} {z : Nat} {N : Nat} {ext : Nat → q_Sh} {rx : Nat → Nat → Option Nat} {L : Nat → Nat → Int64} {d : Nat} (hd : 7 ≤ d)  {I : Nat → Nat → Int32} {E : Nat → Nat → Option Nat} {x1 : Int32} {r0 : (Int32 ⊕ String) × (Nat → Int32) × (Nat → Int32) × (Nat → Int32) × (Nat → Int32)} (hf : f_X12_drop (I 402) (I 457) (I 463) (I 464) (I 465) (I 467) (I 468) (I 469) (I 470) x1 = some r0) : q_Ct g m_X12_drop d 2 12 [] [.ref 400, .int x1] (q_hp (t, r, m, z, N, ext, rx, L) I E) (fun o h' => o = q_oI r0.1 ∧ h' = q_hp (t, r, m, z, N, ext, rx, L) (q_ws I [(467, r0.2.1), (468, r0.2.2.1), (469, r0.2.2.2.1), (470, r0.2.2.2.2)]) (q_ws E [])) := by
  rw [f_X12_drop] at hf
  refine q_Ct_of ok_X12_drop (Nat.le_of_ble_eq_true rfl) ?_ _ rfl rfl
  change q_J g m_X12_drop d 2 12 _ [] _ 0 0 (q_kc (t, r, m, z, N, ext, rx, L) I E 0 [some (.ref 400), some (.int x1)] [] [] [])
  refine q_blk 2 [] (c' := q_kc (t, r, m, z, N, ext, rx, L) I E 2 [some (.ref 400), some (.int x1)] [.int x1, .ref 400] [] []) ok_X12_drop rfl q_cn ?_
  obtain ⟨r1, hr1, hf⟩ := q_bd hf
  cases hv4 : r1 with
  | inl v2 =>
    have hf := q_sm0 hv4 hf
    refine q_kV (M2 := m_X12_checkHook) (As := [.int x1]) (b := 400) (v2 := none) ok_X12_drop ok_X12_checkHook cv_X12_checkHook (ct_X12_checkHook_400 (d := 6) (Nat.le_refl _) hr1) (q_oVl hv4) rfl (Or.inl rfl) rfl rfl rfl rfl (Nat.le_trans (Nat.le_of_ble_eq_true rfl) hd) (Nat.le_of_ble_eq_true rfl) (Nat.le_of_ble_eq_true rfl) (Nat.le_of_ble_eq_true rfl) (fun x hx => absurd hx List.not_mem_nil) (q_nmL0 _) (q_nmS0 _) rfl (pos' := 3) (st' := []) (lI' := []) (lE' := []) rfl rfl rfl rfl ?_
    refine q_blk 3 [] (c' := q_kc (t, r, m, z, N, ext, rx, L) I E 6 [some (.ref 400), some (.int x1)] [.int x1, .ref 457] [] []) ok_X12_drop rfl q_cn ?_
    obtain ⟨r5, hr5, hf⟩ := q_bd hf
    refine q_kV (M2 := m_X2_dropBale) (As := [.int x1]) (b := 457) (v2 := some (.int (q_bz r5.1))) ok_X12_drop ok_X2_dropBale cv_X2_dropBale (ct_X2_dropBale_457 (d := 2) (Nat.le_refl _) hr5) rfl rfl (Or.inl rfl) rfl rfl rfl rfl (Nat.le_trans (Nat.le_of_ble_eq_true rfl) hd) (Nat.le_of_ble_eq_true rfl) (Nat.le_of_ble_eq_true rfl) (Nat.le_of_ble_eq_true rfl) (fun x hx => absurd hx List.not_mem_nil) (q_nmL0 _) (q_nmS0 _) rfl (pos' := 7) (st' := [.int (q_bz r5.1)]) (lI' := [(470, r5.2)]) (lE' := []) rfl rfl (q_mgw rfl rfl) rfl ?_
    refine q_blf 0 [] (a := q_kc (t, r, m, z, N, ext, rx, L) I E 13 [some (.ref 400), some (.int x1)] [] [(470, r5.2)] []) (b := q_kc (t, r, m, z, N, ext, rx, L) I E 8 [some (.ref 400), some (.int x1)] [] [(470, r5.2)] []) (P := ¬ (q_bz r5.1) = 0) ok_X12_drop rfl q_cn (fun h6 => ?_) (fun h6 => ?_)
    · have hf := q_ip h6 hf
      refine q_blk 2 [] (c' := q_kc (t, r, m, z, N, ext, rx, L) I E 15 [some (.ref 400), some (.int x1)] [.ref 457] [(470, r5.2)] []) ok_X12_drop rfl q_cn ?_
      obtain ⟨r7, hr7, hf⟩ := q_bd hf
      refine q_kV (M2 := m_X2_uselessCount) (As := []) (b := 457) (v2 := some (.int r7.1)) ok_X12_drop ok_X2_uselessCount cv_X2_uselessCount (ct_X2_uselessCount_457 (d := 5) (Nat.le_refl _) hr7) rfl rfl (Or.inl rfl) rfl rfl rfl rfl (Nat.le_trans (Nat.le_of_ble_eq_true rfl) hd) (Nat.le_of_ble_eq_true rfl) (Nat.le_of_ble_eq_true rfl) (Nat.le_of_ble_eq_true rfl) (fun x hx => absurd hx List.not_mem_nil) (q_nmL0 _) (q_nmS0 _) rfl (pos' := 16) (st' := [.int r7.1]) (lI' := [(467, r7.2.1), (468, r7.2.2.1), (469, r7.2.2.2), (470, r5.2)]) (lE' := []) rfl rfl (q_mgw rfl rfl) rfl ?_
      cases hf
      exact q_kri ok_X12_drop rfl rfl rfl (Nat.le_of_ble_eq_true rfl) (Nat.le_of_ble_eq_true rfl) ⟨rfl, q_hpe (q_pdw [467, 468, 469, 470] rfl rfl) (q_pdw [] rfl rfl)⟩
    · have hf := q_in h6 hf
      cases hf
      exact q_o_throwS ok_X12_drop rfl rfl rfl rfl rfl rfl q_inISE msg_3 thr_0 q_fitISE q_fits (Nat.le_trans (Nat.le_of_ble_eq_true rfl) hd) (Nat.le_of_ble_eq_true rfl) (Nat.le_of_ble_eq_true rfl) (Nat.le_of_ble_eq_true rfl) ⟨rfl, q_hpe (q_pdw [467, 468, 469, 470] rfl rfl) (q_pdw [] rfl rfl)⟩
  | inr e3 =>
    have hf := q_sm1 hv4 hf
    cases hf
    refine q_kVx (M2 := m_X12_checkHook) (As := [.int x1]) (b := 400) ok_X12_drop ok_X12_checkHook cv_X12_checkHook (ct_X12_checkHook_400 (d := 6) (Nat.le_refl _) hr1) (q_oVr hv4) rfl (Or.inl rfl) rfl rfl rfl rfl (Nat.le_trans (Nat.le_of_ble_eq_true rfl) hd) (Nat.le_of_ble_eq_true rfl) (Nat.le_of_ble_eq_true rfl) (Nat.le_of_ble_eq_true rfl) (fun x hx => absurd hx List.not_mem_nil) (q_nmL0 _) (q_nmS0 _) rfl (lI' := []) (lE' := []) rfl rfl ⟨rfl, q_hpe (q_pdw [467, 468, 469, 470] rfl rfl) (q_pdw [] rfl rfl)⟩
set_option maxHeartbeats 4000000 in
theorem ct_X12_copyNow_400 {g : q_G} {t : Nat} {r : Nat} {m : Nat} {ext : Nat → q_Sh} {rx : Nat → Nat → Option Nat} {L : Nat → Nat → Int64} {d : Nat} (hd : 4 ≤ d)  {I : Nat → Nat → Int32} {E : Nat → Nat → Option Nat} {r0 : Int32 × (Nat → Int32) × (Nat → Int32) × (Nat → Int32) × (Nat → Int32) × (Nat → Int32) × (Nat → Int32) × (Nat → Int32) × (Nat → Int32) × (Nat → Int32) × (Nat → Int32) × (Nat → Int32)} (hf : f_X12_copyNow (I 402) (I 457) (I 459) (I 460) (I 461) (I 462) (I 463) (I 464) (I 465) (I 466) (I 467) (I 468) (I 469) (I 470) (I 471) (I 472) = some r0) : q_Ct g m_X12_copyNow d 0 0 [471, 472] [.ref 400] (q_hp (t, r, m, 499, 492, ext, rx, L) I E) (fun o h' => o = .inl (some (.int r0.1)) ∧ h' = q_hp (t, r, m, 499, 492, ext, rx, L) (q_ws I [(457, r0.2.1), (459, r0.2.2.1), (460, r0.2.2.2.1), (462, r0.2.2.2.2.1), (465, r0.2.2.2.2.2.1), (466, r0.2.2.2.2.2.2.1), (467, r0.2.2.2.2.2.2.2.1), (468, r0.2.2.2.2.2.2.2.2.1), (469, r0.2.2.2.2.2.2.2.2.2.1), (471, r0.2.2.2.2.2.2.2.2.2.2.1), (472, r0.2.2.2.2.2.2.2.2.2.2.2)]) (q_ws E [])) := by
  rw [f_X12_copyNow] at hf
  refine q_Ct_of ok_X12_copyNow (Nat.le_of_ble_eq_true rfl) ?_ _ rfl rfl
  change q_J g m_X12_copyNow d 0 0 _ [471, 472] _ 0 0 (q_kc (t, r, m, 499, 492, ext, rx, L) I E 0 [some (.ref 400)] [] [] [])
  refine q_blk 2 [] (c' := q_kc (t, r, m, 499, 492, ext, rx, L) I E 2 [some (.ref 400)] [.ref 457] [] []) ok_X12_copyNow rfl q_cn ?_
  refine q_less (ls' := [none]) (q_sb1 q_sb0) ?_
  obtain ⟨r1, hr1, hf⟩ := q_bd hf
  refine q_kV (M2 := m_X2_copyHalf) (As := []) (b := 457) (v2 := some (.int r1.1)) ok_X12_copyNow ok_X2_copyHalf cv_X2_copyHalf (ct_X2_copyHalf_457 (d := 3) (Nat.le_refl _) hr1) rfl rfl (Or.inl rfl) rfl rfl rfl rfl (Nat.le_trans (Nat.le_of_ble_eq_true rfl) hd) (Nat.le_of_ble_eq_true rfl) (Nat.le_of_ble_eq_true rfl) (Nat.le_of_ble_eq_true rfl) (fun x hx => hx) rfl rfl rfl (pos' := 3) (st' := [.int r1.1]) (lI' := [(457, r1.2.1), (459, r1.2.2.1), (460, r1.2.2.2.1), (462, r1.2.2.2.2.1), (465, r1.2.2.2.2.2.1), (466, r1.2.2.2.2.2.2.1), (467, r1.2.2.2.2.2.2.2.1), (468, r1.2.2.2.2.2.2.2.2.1), (469, r1.2.2.2.2.2.2.2.2.2.1), (471, r1.2.2.2.2.2.2.2.2.2.2.1), (472, r1.2.2.2.2.2.2.2.2.2.2.2)]) (lE' := []) rfl rfl (q_mgw rfl rfl) rfl ?_
  cases hf
  exact q_kri ok_X12_copyNow rfl rfl rfl (Nat.le_of_ble_eq_true rfl) (Nat.le_of_ble_eq_true rfl) ⟨rfl, q_hpe (q_pdw [457, 459, 460, 462, 465, 466, 467, 468, 469, 471, 472] rfl rfl) (q_pdw [] rfl rfl)⟩
set_option maxHeartbeats 4000000 in
theorem ct_X1_isGone_458 {g : q_G} {t : Nat} {r : Nat} {m : Nat} {z : Nat} {N : Nat} {ext : Nat → q_Sh} {rx : Nat → Nat → Option Nat} {L : Nat → Nat → Int64} {d : Nat} (hd : 1 ≤ d)  {I : Nat → Nat → Int32} {E : Nat → Nat → Option Nat} {x1 : Int32} {r0 : Bool} (hf : f_X1_isGone (I 459) x1 = some r0) : q_Ct g m_X1_isGone d 0 0 [] [.ref 458, .int x1] (q_hp (t, r, m, z, N, ext, rx, L) I E) (fun o h' => o = .inl (some (.int (q_bz r0))) ∧ h' = q_hp (t, r, m, z, N, ext, rx, L) (q_ws I []) (q_ws E [])) := by
  rw [f_X1_isGone] at hf
  refine q_Ct_of ok_X1_isGone (Nat.le_of_ble_eq_true rfl) ?_ _ rfl rfl
  change q_J g m_X1_isGone d 0 0 _ [] _ 0 0 (q_kc (t, r, m, z, N, ext, rx, L) I E 0 [some (.ref 458), some (.int x1)] [] [] [])
  refine q_blf 1 [] (a := q_kc (t, r, m, z, N, ext, rx, L) I E 10 [some (.ref 458), some (.int x1)] [] [] []) (b := q_kc (t, r, m, z, N, ext, rx, L) I E 2 [some (.ref 458), some (.int x1)] [] [] []) (P := x1 < 0) ok_X1_isGone rfl q_cn (fun h1 => ?_) (fun h1 => ?_)
  · have hf := q_ip h1 hf
    refine q_blk 2 [] (c' := q_kc (t, r, m, z, N, ext, rx, L) I E 13 [some (.ref 458), some (.int x1)] [.int (1 : Int32)] [] []) ok_X1_isGone rfl q_cn ?_
    cases hf
    exact q_kri ok_X1_isGone rfl rfl rfl (Nat.le_of_ble_eq_true rfl) (Nat.le_of_ble_eq_true rfl) ⟨rfl, q_hpe (q_pdw [] rfl rfl) (q_pdw [] rfl rfl)⟩
  · have hf := q_in h1 hf
    refine q_blf 2 [] (a := q_kc (t, r, m, z, N, ext, rx, L) I E 10 [some (.ref 458), some (.int x1)] [] [] []) (b := q_kc (t, r, m, z, N, ext, rx, L) I E 5 [some (.ref 458), some (.int x1)] [] [] []) (P := (128 : Int32) ≤ x1) ok_X1_isGone rfl q_cn (fun h2 => ?_) (fun h2 => ?_)
    · have hf := q_ip h2 hf
      refine q_blk 2 [] (c' := q_kc (t, r, m, z, N, ext, rx, L) I E 13 [some (.ref 458), some (.int x1)] [.int (1 : Int32)] [] []) ok_X1_isGone rfl q_cn ?_
      cases hf
      exact q_kri ok_X1_isGone rfl rfl rfl (Nat.le_of_ble_eq_true rfl) (Nat.le_of_ble_eq_true rfl) ⟨rfl, q_hpe (q_pdw [] rfl rfl) (q_pdw [] rfl rfl)⟩
    · have hf := q_in h2 hf
      obtain ⟨j3, hj3, hf⟩ := q_bd hf
      refine q_blf 4 [j3] (a := q_kc (t, r, m, z, N, ext, rx, L) I E 12 [some (.ref 458), some (.int x1)] [] [] []) (b := q_kc (t, r, m, z, N, ext, rx, L) I E 10 [some (.ref 458), some (.int x1)] [] [] []) (P := ¬ ((I 459) j3) = 0) ok_X1_isGone rfl (q_cc hj3 q_cn) (fun h4 => ?_) (fun h4 => ?_)
      · have hf := q_ip h4 hf
        refine q_blk 1 [] (c' := q_kc (t, r, m, z, N, ext, rx, L) I E 13 [some (.ref 458), some (.int x1)] [.int (0 : Int32)] [] []) ok_X1_isGone rfl q_cn ?_
        cases hf
        exact q_kri ok_X1_isGone rfl rfl rfl (Nat.le_of_ble_eq_true rfl) (Nat.le_of_ble_eq_true rfl) ⟨rfl, q_hpe (q_pdw [] rfl rfl) (q_pdw [] rfl rfl)⟩
      · have hf := q_in h4 hf
        refine q_blk 2 [] (c' := q_kc (t, r, m, z, N, ext, rx, L) I E 13 [some (.ref 458), some (.int x1)] [.int (1 : Int32)] [] []) ok_X1_isGone rfl q_cn ?_
        cases hf
        exact q_kri ok_X1_isGone rfl rfl rfl (Nat.le_of_ble_eq_true rfl) (Nat.le_of_ble_eq_true rfl) ⟨rfl, q_hpe (q_pdw [] rfl rfl) (q_pdw [] rfl rfl)⟩
set_option maxHeartbeats 4000000 in
theorem lp_X1_untieFromGone_L7_458 {g : q_G} {d mc ms : Nat} {h0 : q_H} {Q : (Option Value ⊕ String) → q_H → Prop} {k n : Nat} {t : Nat} {r : Nat} {m : Nat} {z : Nat} {N : Nat} {ext : Nat → q_Sh} {rx : Nat → Nat → Option Nat} {L : Nat → Nat → Int64} (hd : 3 ≤ d) (hk : k ≤ mc) (hn : n ≤ ms)  {v1 : Int32} : ∀ (fu : Nat) {I : Nat → Nat → Int32} {E : Nat → Nat → Option Nat} {v2 : Int32} {r0 : (Nat → Int32)} (hf : f_X1_untieFromGone_L7 (I 459) (I 463) v1 fu (I 464) v2 = some r0) (hK0 : q_J g m_X1_untieFromGone d mc ms h0 [] Q k n (q_kc (t, r, m, z, N, ext, rx, L) I E 26 [some (.ref 458), some (.int v1), none] [] [(464, r0)] [])), q_J g m_X1_untieFromGone d mc ms h0 [] Q k n (7, [some (.ref 458), some (.int v1), some (.int v2)], [], q_hp (t, r, m, z, N, ext, rx, L) I E) := by
  intro fu
  induction fu with
  | zero =>
    intro I E v2 r0 hf hK0
    rw [f_X1_untieFromGone_L7] at hf
    cases hf
  | succ fu ih =>
    intro I E v2 r0 hf hK0
    rw [f_X1_untieFromGone_L7] at hf
    change q_J g m_X1_untieFromGone d mc ms h0 [] Q k n (q_kc (t, r, m, z, N, ext, rx, L) I E 7 [some (.ref 458), some (.int v1), some (.int v2)] [] [] [])
    refine q_blk 3 [] (c' := q_kc (t, r, m, z, N, ext, rx, L) I E 10 [some (.ref 458), some (.int v1), some (.int v2)] [.int v1, .ref 458, .int v2] [] []) ok_X1_untieFromGone rfl q_cn ?_
    obtain ⟨r1, hr1, hf⟩ := q_bd hf
    refine q_kV (M2 := m_X1_ropes) (As := [.int v1]) (b := 458) (v2 := some (.int r1)) ok_X1_untieFromGone ok_X1_ropes cv_X1_ropes (ct_X1_ropes_458 (d := 1) (Nat.le_refl _) hr1) rfl rfl (Or.inl rfl) rfl rfl rfl rfl (Nat.le_trans (Nat.le_of_ble_eq_true rfl) hd) hk hn (Nat.le_of_ble_eq_true rfl) (fun x hx => absurd hx List.not_mem_nil) (q_nmL0 _) (q_nmS0 _) rfl (pos' := 11) (st' := [.int r1, .int v2]) (lI' := []) (lE' := []) rfl rfl rfl rfl ?_
    refine q_blf 0 [] (a := q_kc (t, r, m, z, N, ext, rx, L) I E 26 [some (.ref 458), some (.int v1), some (.int v2)] [] [] []) (b := q_kc (t, r, m, z, N, ext, rx, L) I E 12 [some (.ref 458), some (.int v1), some (.int v2)] [] [] []) (P := r1 ≤ v2) ok_X1_untieFromGone rfl q_cn (fun h2 => ?_) (fun h2 => ?_)
    · have hf := q_ip h2 hf
      refine q_less (ls' := [some (.ref 458), some (.int v1), none]) (q_sb2 (q_sb2 (q_sb1 q_sb0))) ?_
      cases hf
      exact q_Jpad (q_pdw [464] rfl rfl) (q_pdw [] rfl rfl) hK0
    · have hf := q_in h2 hf
      refine q_blk 4 [] (c' := q_kc (t, r, m, z, N, ext, rx, L) I E 16 [some (.ref 458), some (.int v1), some (.int v2)] [.int v2, .int v1, .ref 458, .ref 458] [] []) ok_X1_untieFromGone rfl q_cn ?_
      obtain ⟨r3, hr3, hf⟩ := q_bd hf
      refine q_kV (M2 := m_X1_lead) (As := [.int v1, .int v2]) (b := 458) (v2 := some (.int r3)) ok_X1_untieFromGone ok_X1_lead cv_X1_lead (ct_X1_lead_458 (d := 2) (Nat.le_refl _) hr3) rfl rfl (Or.inl rfl) rfl rfl rfl rfl (Nat.le_trans (Nat.le_of_ble_eq_true rfl) hd) hk hn (Nat.le_of_ble_eq_true rfl) (fun x hx => absurd hx List.not_mem_nil) (q_nmL0 _) (q_nmS0 _) rfl (pos' := 17) (st' := [.int r3, .ref 458]) (lI' := []) (lE' := []) rfl rfl rfl rfl ?_
      obtain ⟨r4, hr4, hf⟩ := q_bd hf
      refine q_kV (M2 := m_X1_isGone) (As := [.int r3]) (b := 458) (v2 := some (.int (q_bz r4))) ok_X1_untieFromGone ok_X1_isGone cv_X1_isGone (ct_X1_isGone_458 (d := 1) (Nat.le_refl _) hr4) rfl rfl (Or.inl rfl) rfl rfl rfl rfl (Nat.le_trans (Nat.le_of_ble_eq_true rfl) hd) hk hn (Nat.le_of_ble_eq_true rfl) (fun x hx => absurd hx List.not_mem_nil) (q_nmL0 _) (q_nmS0 _) rfl (pos' := 18) (st' := [.int (q_bz r4)]) (lI' := []) (lE' := []) rfl rfl rfl rfl ?_
      refine q_blf 0 [] (a := q_kc (t, r, m, z, N, ext, rx, L) I E 24 [some (.ref 458), some (.int v1), some (.int v2)] [] [] []) (b := q_kc (t, r, m, z, N, ext, rx, L) I E 19 [some (.ref 458), some (.int v1), some (.int v2)] [] [] []) (P := (q_bz r4) = 0) ok_X1_untieFromGone rfl q_cn (fun h5 => ?_) (fun h5 => ?_)
      · have hf := q_ip h5 hf
        refine q_blk 2 [] (c' := q_kc (t, r, m, z, N, ext, rx, L) I E 7 [some (.ref 458), some (.int v1), some (.int (v2 + 1))] [] [] []) ok_X1_untieFromGone rfl q_cn ?_
        exact ih (I := q_ws I []) (E := q_ws E []) hf (q_Jmrg (q_mgw rfl rfl) (q_mgw rfl rfl) hK0)
      · have hf := q_in h5 hf
        refine q_blk 4 [] (c' := q_kc (t, r, m, z, N, ext, rx, L) I E 23 [some (.ref 458), some (.int v1), some (.int v2)] [.int (-1 : Int32), .int v2, .int v1, .ref 458] [] []) ok_X1_untieFromGone rfl q_cn ?_
        obtain ⟨r6, hr6, hf⟩ := q_bd hf
        refine q_kV (M2 := m_X1_setLead) (As := [.int v1, .int v2, .int (-1 : Int32)]) (b := 458) (v2 := none) ok_X1_untieFromGone ok_X1_setLead cv_X1_setLead (ct_X1_setLead_458 (d := 2) (Nat.le_refl _) hr6) rfl rfl (Or.inl rfl) rfl rfl rfl rfl (Nat.le_trans (Nat.le_of_ble_eq_true rfl) hd) hk hn (Nat.le_of_ble_eq_true rfl) (fun x hx => absurd hx List.not_mem_nil) (q_nmL0 _) (q_nmS0 _) rfl (pos' := 24) (st' := []) (lI' := [(464, r6)]) (lE' := []) rfl rfl (q_mgw rfl rfl) rfl ?_
        refine q_blk 2 [] (c' := q_kc (t, r, m, z, N, ext, rx, L) I E 7 [some (.ref 458), some (.int v1), some (.int (v2 + 1))] [] [(464, r6)] []) ok_X1_untieFromGone rfl q_cn ?_
        exact ih (I := q_ws I [(464, r6)]) (E := q_ws E []) hf (q_Jmrg (q_mgw rfl rfl) (q_mgw rfl rfl) hK0)
set_option maxHeartbeats 4000000 in
theorem lp_X1_untieFromGone_L2_458 {g : q_G} {d mc ms : Nat} {h0 : q_H} {Q : (Option Value ⊕ String) → q_H → Prop} {k n : Nat} {t : Nat} {r : Nat} {m : Nat} {z : Nat} {N : Nat} {ext : Nat → q_Sh} {rx : Nat → Nat → Option Nat} {L : Nat → Nat → Int64} (hd : 3 ≤ d) (hk : k ≤ mc) (hn : n ≤ ms)  : ∀ (fu : Nat) {I : Nat → Nat → Int32} {E : Nat → Nat → Option Nat} {v1 : Int32} {r0 : (Nat → Int32)} (hf : f_X1_untieFromGone_L2 (I 459) (I 463) fu (I 464) v1 = some r0) (hK0 : q_J g m_X1_untieFromGone d mc ms h0 [] Q k n (q_kc (t, r, m, z, N, ext, rx, L) I E 28 [none, none, none] [] [(464, r0)] [])), q_J g m_X1_untieFromGone d mc ms h0 [] Q k n (2, [some (.ref 458), some (.int v1), none], [], q_hp (t, r, m, z, N, ext, rx, L) I E) := by
  intro fu
  induction fu with
  | zero =>
    intro I E v1 r0 hf hK0
    rw [f_X1_untieFromGone_L2] at hf
    cases hf
  | succ fu ih =>
    intro I E v1 r0 hf hK0
    rw [f_X1_untieFromGone_L2] at hf
    change q_J g m_X1_untieFromGone d mc ms h0 [] Q k n (q_kc (t, r, m, z, N, ext, rx, L) I E 2 [some (.ref 458), some (.int v1), none] [] [] [])
    refine q_blf 2 [] (a := q_kc (t, r, m, z, N, ext, rx, L) I E 28 [some (.ref 458), some (.int v1), none] [] [] []) (b := q_kc (t, r, m, z, N, ext, rx, L) I E 5 [some (.ref 458), some (.int v1), none] [] [] []) (P := (128 : Int32) ≤ v1) ok_X1_untieFromGone rfl q_cn (fun h7 => ?_) (fun h7 => ?_)
    · have hf := q_ip h7 hf
      refine q_less (ls' := [none, none, none]) (q_sb1 (q_sb1 (q_sb1 q_sb0))) ?_
      cases hf
      exact q_Jpad (q_pdw [464] rfl rfl) (q_pdw [] rfl rfl) hK0
    · have hf := q_in h7 hf
      refine q_blk 2 [] (c' := q_kc (t, r, m, z, N, ext, rx, L) I E 7 [some (.ref 458), some (.int v1), some (.int (0 : Int32))] [] [] []) ok_X1_untieFromGone rfl q_cn ?_
      obtain ⟨r8, hr8, hf⟩ := q_bd hf
      refine lp_X1_untieFromGone_L7_458 (I := q_ws I []) (E := q_ws E []) hd hk hn 4096 hr8 ?_
      refine q_Jmrg (lI' := [(464, r8)]) (lE' := []) (q_mgw rfl rfl) (q_mgw rfl rfl) ?_
      refine q_blk 2 [] (c' := q_kc (t, r, m, z, N, ext, rx, L) I E 2 [some (.ref 458), some (.int (v1 + 1)), none] [] [(464, r8)] []) ok_X1_untieFromGone rfl q_cn ?_
      exact ih (I := q_ws I [(464, r8)]) (E := q_ws E []) hf (q_Jmrg (q_mgw rfl rfl) (q_mgw rfl rfl) hK0)
set_option maxHeartbeats 4000000 in
theorem ct_X1_untieFromGone_458 {g : q_G} {t : Nat} {r : Nat} {m : Nat} {z : Nat} {N : Nat} {ext : Nat → q_Sh} {rx : Nat → Nat → Option Nat} {L : Nat → Nat → Int64} {d : Nat} (hd : 3 ≤ d)  {I : Nat → Nat → Int32} {E : Nat → Nat → Option Nat} {r0 : (Nat → Int32)} (hf : f_X1_untieFromGone (I 459) (I 463) (I 464) = some r0) : q_Ct g m_X1_untieFromGone d 0 0 [] [.ref 458] (q_hp (t, r, m, z, N, ext, rx, L) I E) (fun o h' => o = .inl none ∧ h' = q_hp (t, r, m, z, N, ext, rx, L) (q_ws I [(464, r0)]) (q_ws E [])) := by
  rw [f_X1_untieFromGone] at hf
  refine q_Ct_of ok_X1_untieFromGone (Nat.le_of_ble_eq_true rfl) ?_ _ rfl rfl
  change q_J g m_X1_untieFromGone d 0 0 _ [] _ 0 0 (q_kc (t, r, m, z, N, ext, rx, L) I E 0 [some (.ref 458), none, none] [] [] [])
  refine q_blk 2 [] (c' := q_kc (t, r, m, z, N, ext, rx, L) I E 2 [some (.ref 458), some (.int (0 : Int32)), none] [] [] []) ok_X1_untieFromGone rfl q_cn ?_
  obtain ⟨r9, hr9, hf⟩ := q_bd hf
  refine lp_X1_untieFromGone_L2_458 (I := q_ws I []) (E := q_ws E []) hd (Nat.le_of_ble_eq_true rfl) (Nat.le_of_ble_eq_true rfl) 4096 hr9 ?_
  refine q_Jmrg (lI' := [(464, r9)]) (lE' := []) (q_mgw rfl rfl) (q_mgw rfl rfl) ?_
  cases hf
  exact q_krv ok_X1_untieFromGone rfl rfl (Nat.le_of_ble_eq_true rfl) (Nat.le_of_ble_eq_true rfl) ⟨rfl, q_hpe (q_pdw [464] rfl rfl) (q_pdw [] rfl rfl)⟩
set_option maxHeartbeats 4000000 in
theorem lp_X2_sweep_L6_457 {g : q_G} {d mc ms : Nat} {h0 : q_H} {Q : (Option Value ⊕ String) → q_H → Prop} {k n : Nat} {t : Nat} {r : Nat} {m : Nat} {z : Nat} {N : Nat} {ext : Nat → q_Sh} {rx : Nat → Nat → Option Nat} {L : Nat → Nat → Int64} (hd : 5 ≤ d) (hk : k ≤ mc) (hn : n ≤ ms)  : ∀ (fu : Nat) {I : Nat → Nat → Int32} {E : Nat → Nat → Option Nat} {v1 : Int32} {v2 : Int32} {r0 : Int32 × (Nat → Int32) × (Nat → Int32) × (Nat → Int32)} (hf : f_X2_sweep_L6 (I 402) (I 460) (I 461) (I 469) fu (I 459) (I 465) (I 466) v1 v2 = some r0) (hK0 : q_J g m_X2_sweep d mc ms h0 [] Q k n (q_kc (t, r, m, z, N, ext, rx, L) I E 39 [some (.ref 457), some (.int r0.1), none, none] [] [(459, r0.2.1), (465, r0.2.2.1), (466, r0.2.2.2)] [])), q_J g m_X2_sweep d mc ms h0 [] Q k n (6, [some (.ref 457), some (.int v1), some (.int v2), none], [], q_hp (t, r, m, z, N, ext, rx, L) I E) := by
  intro fu
  induction fu with
  | zero =>
    intro I E v1 v2 r0 hf hK0
    rw [f_X2_sweep_L6] at hf
    cases hf
  | succ fu ih =>
    intro I E v1 v2 r0 hf hK0
    rw [f_X2_sweep_L6] at hf
    change q_J g m_X2_sweep d mc ms h0 [] Q k n (q_kc (t, r, m, z, N, ext, rx, L) I E 6 [some (.ref 457), some (.int v1), some (.int v2), none] [] [] [])
    refine q_blf 4 [] (a := q_kc (t, r, m, z, N, ext, rx, L) I E 39 [some (.ref 457), some (.int v1), some (.int v2), none] [] [] []) (b := q_kc (t, r, m, z, N, ext, rx, L) I E 11 [some (.ref 457), some (.int v1), some (.int v2), none] [] [] []) (P := ((I 402) 1) ≤ v2) ok_X2_sweep rfl q_cn (fun h1 => ?_) (fun h1 => ?_)
    · have hf := q_ip h1 hf
      refine q_less (ls' := [some (.ref 457), some (.int v1), none, none]) (q_sb2 (q_sb2 (q_sb1 (q_sb1 q_sb0)))) ?_
      cases hf
      exact q_Jpad (q_pdw [459, 465, 466] rfl rfl) (q_pdw [] rfl rfl) hK0
    · have hf := q_in h1 hf
      refine q_blk 2 [] (c' := q_kc (t, r, m, z, N, ext, rx, L) I E 13 [some (.ref 457), some (.int v1), some (.int v2), none] [.int v2, .ref 457] [] []) ok_X2_sweep rfl q_cn ?_
      obtain ⟨r2, hr2, hf⟩ := q_bd hf
      refine q_kV (M2 := m_X2_loftBaleFrom) (As := [.int v2]) (b := 457) (v2 := some (.int r2)) ok_X2_sweep ok_X2_loftBaleFrom cv_X2_loftBaleFrom (ct_X2_loftBaleFrom_457 (d := 2) (Nat.le_refl _) hr2) rfl rfl (Or.inl rfl) rfl rfl rfl rfl (Nat.le_trans (Nat.le_of_ble_eq_true rfl) hd) hk hn (Nat.le_of_ble_eq_true rfl) (fun x hx => absurd hx List.not_mem_nil) (q_nmL0 _) (q_nmS0 _) rfl (pos' := 14) (st' := [.int r2]) (lI' := []) (lE' := []) rfl rfl rfl rfl ?_
      refine q_blf 3 [] (a := q_kc (t, r, m, z, N, ext, rx, L) I E 37 [some (.ref 457), some (.int v1), some (.int v2), some (.int r2)] [] [] []) (b := q_kc (t, r, m, z, N, ext, rx, L) I E 18 [some (.ref 457), some (.int v1), some (.int v2), some (.int r2)] [] [] []) (P := r2 = (-1 : Int32)) ok_X2_sweep rfl q_cn (fun h3 => ?_) (fun h3 => ?_)
      · have hf := q_ip h3 hf
        refine q_blk 2 [] (c' := q_kc (t, r, m, z, N, ext, rx, L) I E 6 [some (.ref 457), some (.int v1), some (.int (v2 + 1)), some (.int r2)] [] [] []) ok_X2_sweep rfl q_cn ?_
        refine q_less (ls' := [some (.ref 457), some (.int v1), some (.int (v2 + 1)), none]) (q_sb2 (q_sb2 (q_sb2 (q_sb1 q_sb0)))) ?_
        exact ih (I := q_ws I []) (E := q_ws E []) hf (q_Jmrg (q_mgw rfl rfl) (q_mgw rfl rfl) hK0)
      · have hf := q_in h3 hf
        refine q_blk 3 [] (c' := q_kc (t, r, m, z, N, ext, rx, L) I E 21 [some (.ref 457), some (.int v1), some (.int v2), some (.int r2)] [.int r2, .ref 467] [] []) ok_X2_sweep rfl q_cn ?_
        obtain ⟨r4, hr4, hf⟩ := q_bd hf
        refine q_kV (M2 := m_X4_has) (As := [.int r2]) (b := 467) (v2 := some (.int (q_bz r4))) ok_X2_sweep ok_X4_has cv_X4_has (ct_X4_has_467 (d := 1) (Nat.le_refl _) hr4) rfl rfl (Or.inl rfl) rfl rfl rfl rfl (Nat.le_trans (Nat.le_of_ble_eq_true rfl) hd) hk hn (Nat.le_of_ble_eq_true rfl) (fun x hx => absurd hx List.not_mem_nil) (q_nmL0 _) (q_nmS0 _) rfl (pos' := 22) (st' := [.int (q_bz r4)]) (lI' := []) (lE' := []) rfl rfl rfl rfl ?_
        refine q_blf 0 [] (a := q_kc (t, r, m, z, N, ext, rx, L) I E 37 [some (.ref 457), some (.int v1), some (.int v2), some (.int r2)] [] [] []) (b := q_kc (t, r, m, z, N, ext, rx, L) I E 23 [some (.ref 457), some (.int v1), some (.int v2), some (.int r2)] [] [] []) (P := ¬ (q_bz r4) = 0) ok_X2_sweep rfl q_cn (fun h5 => ?_) (fun h5 => ?_)
        · have hf := q_ip h5 hf
          refine q_blk 2 [] (c' := q_kc (t, r, m, z, N, ext, rx, L) I E 6 [some (.ref 457), some (.int v1), some (.int (v2 + 1)), some (.int r2)] [] [] []) ok_X2_sweep rfl q_cn ?_
          refine q_less (ls' := [some (.ref 457), some (.int v1), some (.int (v2 + 1)), none]) (q_sb2 (q_sb2 (q_sb2 (q_sb1 q_sb0)))) ?_
          exact ih (I := q_ws I []) (E := q_ws E []) hf (q_Jmrg (q_mgw rfl rfl) (q_mgw rfl rfl) hK0)
        · have hf := q_in h5 hf
          refine q_blk 7 [] (c' := q_kc (t, r, m, z, N, ext, rx, L) I E 30 [some (.ref 457), some (.int v1), some (.int v2), some (.int r2)] [.int r2, .ref 458, .int v2, .int (-1 : Int32), .ref 465] [] []) ok_X2_sweep rfl q_cn ?_
          obtain ⟨r6, hr6, hf⟩ := q_bd hf
          refine q_kV (M2 := m_X1_size) (As := [.int r2]) (b := 458) (v2 := some (.int r6)) ok_X2_sweep ok_X1_size cv_X1_size (ct_X1_size_458 (d := 1) (Nat.le_refl _) hr6) rfl rfl (Or.inl rfl) rfl rfl rfl rfl (Nat.le_trans (Nat.le_of_ble_eq_true rfl) hd) hk hn (Nat.le_of_ble_eq_true rfl) (fun x hx => absurd hx List.not_mem_nil) (q_nmL0 _) (q_nmS0 _) rfl (pos' := 31) (st' := [.int r6, .int v2, .int (-1 : Int32), .ref 465]) (lI' := []) (lE' := []) rfl rfl rfl rfl ?_
          obtain ⟨r7, hr7, hf⟩ := q_bd hf
          refine q_kV (M2 := m_X5_lay) (As := [.int (-1 : Int32), .int v2, .int r6]) (b := 465) (v2 := none) ok_X2_sweep ok_X5_lay cv_X5_lay (ct_X5_lay_465 (d := 1) (Nat.le_refl _) hr7) rfl rfl (Or.inl rfl) rfl rfl rfl rfl (Nat.le_trans (Nat.le_of_ble_eq_true rfl) hd) hk hn (Nat.le_of_ble_eq_true rfl) (fun x hx => absurd hx List.not_mem_nil) (q_nmL0 _) (q_nmS0 _) rfl (pos' := 32) (st' := []) (lI' := [(465, r7.1), (466, r7.2)]) (lE' := []) rfl rfl (q_mgw rfl rfl) rfl ?_
          refine q_blk 3 [] (c' := q_kc (t, r, m, z, N, ext, rx, L) I E 35 [some (.ref 457), some (.int v1), some (.int v2), some (.int r2)] [.int r2, .ref 458] [(465, r7.1), (466, r7.2)] []) ok_X2_sweep rfl q_cn ?_
          obtain ⟨r8, hr8, hf⟩ := q_bd hf
          refine q_kV (M2 := m_X1_remove) (As := [.int r2]) (b := 458) (v2 := none) ok_X2_sweep ok_X1_remove cv_X1_remove (ct_X1_remove_458 (d := 1) (Nat.le_refl _) hr8) rfl rfl (Or.inl rfl) rfl rfl rfl rfl (Nat.le_trans (Nat.le_of_ble_eq_true rfl) hd) hk hn (Nat.le_of_ble_eq_true rfl) (fun x hx => absurd hx List.not_mem_nil) (q_nmL0 _) (q_nmS0 _) rfl (pos' := 36) (st' := []) (lI' := [(459, r8), (465, r7.1), (466, r7.2)]) (lE' := []) rfl rfl (q_mgw rfl rfl) rfl ?_
          refine q_blk 3 [] (c' := q_kc (t, r, m, z, N, ext, rx, L) I E 6 [some (.ref 457), some (.int (v1 + 1)), some (.int (v2 + 1)), some (.int r2)] [] [(459, r8), (465, r7.1), (466, r7.2)] []) ok_X2_sweep rfl q_cn ?_
          refine q_less (ls' := [some (.ref 457), some (.int (v1 + 1)), some (.int (v2 + 1)), none]) (q_sb2 (q_sb2 (q_sb2 (q_sb1 q_sb0)))) ?_
          exact ih (I := q_ws I [(459, r8), (465, r7.1), (466, r7.2)]) (E := q_ws E []) hf (q_Jmrg (q_mgw rfl rfl) (q_mgw rfl rfl) hK0)
set_option maxHeartbeats 4000000 in
theorem ct_X2_sweep_457 {g : q_G} {t : Nat} {r : Nat} {m : Nat} {z : Nat} {N : Nat} {ext : Nat → q_Sh} {rx : Nat → Nat → Option Nat} {L : Nat → Nat → Int64} {d : Nat} (hd : 5 ≤ d)  {I : Nat → Nat → Int32} {E : Nat → Nat → Option Nat} {r0 : Int32 × (Nat → Int32) × (Nat → Int32) × (Nat → Int32) × (Nat → Int32) × (Nat → Int32) × (Nat → Int32) × (Nat → Int32) × (Nat → Int32)} (hf : f_X2_sweep (I 402) (I 457) (I 459) (I 460) (I 461) (I 463) (I 464) (I 465) (I 466) (I 467) (I 468) (I 469) (I 470) = some r0) : q_Ct g m_X2_sweep d 0 0 [] [.ref 457] (q_hp (t, r, m, z, N, ext, rx, L) I E) (fun o h' => o = .inl (some (.int r0.1)) ∧ h' = q_hp (t, r, m, z, N, ext, rx, L) (q_ws I [(457, r0.2.1), (459, r0.2.2.1), (464, r0.2.2.2.1), (465, r0.2.2.2.2.1), (466, r0.2.2.2.2.2.1), (467, r0.2.2.2.2.2.2.1), (468, r0.2.2.2.2.2.2.2.1), (469, r0.2.2.2.2.2.2.2.2)]) (q_ws E [])) := by
  rw [f_X2_sweep] at hf
  refine q_Ct_of ok_X2_sweep (Nat.le_of_ble_eq_true rfl) ?_ _ rfl rfl
  change q_J g m_X2_sweep d 0 0 _ [] _ 0 0 (q_kc (t, r, m, z, N, ext, rx, L) I E 0 [some (.ref 457), none, none, none] [] [] [])
  refine q_blk 1 [] (c' := q_kc (t, r, m, z, N, ext, rx, L) I E 1 [some (.ref 457), none, none, none] [.ref 457] [] []) ok_X2_sweep rfl q_cn ?_
  obtain ⟨r9, hr9, hf⟩ := q_bd hf
  refine q_kV (M2 := m_X2_findReached) (As := []) (b := 457) (v2 := none) ok_X2_sweep ok_X2_findReached cv_X2_findReached (ct_X2_findReached_457 (d := 4) (Nat.le_refl _) hr9) rfl rfl (Or.inl rfl) rfl rfl rfl rfl (Nat.le_trans (Nat.le_of_ble_eq_true rfl) hd) (Nat.le_of_ble_eq_true rfl) (Nat.le_of_ble_eq_true rfl) (Nat.le_of_ble_eq_true rfl) (fun x hx => absurd hx List.not_mem_nil) (q_nmL0 _) (q_nmS0 _) rfl (pos' := 2) (st' := []) (lI' := [(467, r9.1), (468, r9.2.1), (469, r9.2.2)]) (lE' := []) rfl rfl (q_mgw rfl rfl) rfl ?_
  refine q_blk 4 [] (c' := q_kc (t, r, m, z, N, ext, rx, L) I E 6 [some (.ref 457), some (.int (0 : Int32)), some (.int (0 : Int32)), none] [] [(467, r9.1), (468, r9.2.1), (469, r9.2.2)] []) ok_X2_sweep rfl q_cn ?_
  obtain ⟨r10, hr10, hf⟩ := q_bd hf
  refine lp_X2_sweep_L6_457 (I := q_ws I [(467, r9.1), (468, r9.2.1), (469, r9.2.2)]) (E := q_ws E []) hd (Nat.le_of_ble_eq_true rfl) (Nat.le_of_ble_eq_true rfl) 4096 hr10 ?_
  refine q_Jmrg (lI' := [(459, r10.2.1), (465, r10.2.2.1), (466, r10.2.2.2), (467, r9.1), (468, r9.2.1), (469, r9.2.2)]) (lE' := []) (q_mgw rfl rfl) (q_mgw rfl rfl) ?_
  refine q_blk 2 [] (c' := q_kc (t, r, m, z, N, ext, rx, L) I E 41 [some (.ref 457), some (.int r10.1), none, none] [.ref 458] [(459, r10.2.1), (465, r10.2.2.1), (466, r10.2.2.2), (467, r9.1), (468, r9.2.1), (469, r9.2.2)] []) ok_X2_sweep rfl q_cn ?_
  obtain ⟨r11, hr11, hf⟩ := q_bd hf
  refine q_kV (M2 := m_X1_untieFromGone) (As := []) (b := 458) (v2 := none) ok_X2_sweep ok_X1_untieFromGone cv_X1_untieFromGone (ct_X1_untieFromGone_458 (d := 3) (Nat.le_refl _) hr11) rfl rfl (Or.inl rfl) rfl rfl rfl rfl (Nat.le_trans (Nat.le_of_ble_eq_true rfl) hd) (Nat.le_of_ble_eq_true rfl) (Nat.le_of_ble_eq_true rfl) (Nat.le_of_ble_eq_true rfl) (fun x hx => absurd hx List.not_mem_nil) (q_nmL0 _) (q_nmS0 _) rfl (pos' := 42) (st' := []) (lI' := [(459, r10.2.1), (464, r11), (465, r10.2.2.1), (466, r10.2.2.2), (467, r9.1), (468, r9.2.1), (469, r9.2.2)]) (lE' := []) rfl rfl (q_mgw rfl rfl) rfl ?_
  refine q_blk 7 [] (c' := q_kc (t, r, m, z, N, ext, rx, L) I E 49 [some (.ref 457), some (.int r10.1), none, none] [.int r10.1] [(457, (q_up (I 457) 14 (((I 457) 14) + r10.1))), (459, r10.2.1), (464, r11), (465, r10.2.2.1), (466, r10.2.2.2), (467, r9.1), (468, r9.2.1), (469, r9.2.2)] []) ok_X2_sweep rfl q_cn ?_
  cases hf
  exact q_kri ok_X2_sweep rfl rfl rfl (Nat.le_of_ble_eq_true rfl) (Nat.le_of_ble_eq_true rfl) ⟨rfl, q_hpe (q_pdw [457, 459, 464, 465, 466, 467, 468, 469] rfl rfl) (q_pdw [] rfl rfl)⟩
set_option maxHeartbeats 4000000 in
theorem ct_X12_sweepLoft_400 {g : q_G} {t : Nat} {r : Nat} {m : Nat} {z : Nat} {N : Nat} {ext : Nat → q_Sh} {rx : Nat → Nat → Option Nat} {L : Nat → Nat → Int64} {d : Nat} (hd : 6 ≤ d)  {I : Nat → Nat → Int32} {E : Nat → Nat → Option Nat} {r0 : Int32 × (Nat → Int32) × (Nat → Int32) × (Nat → Int32) × (Nat → Int32) × (Nat → Int32) × (Nat → Int32) × (Nat → Int32) × (Nat → Int32)} (hf : f_X12_sweepLoft (I 402) (I 457) (I 459) (I 460) (I 461) (I 463) (I 464) (I 465) (I 466) (I 467) (I 468) (I 469) (I 470) = some r0) : q_Ct g m_X12_sweepLoft d 0 0 [] [.ref 400] (q_hp (t, r, m, z, N, ext, rx, L) I E) (fun o h' => o = .inl (some (.int r0.1)) ∧ h' = q_hp (t, r, m, z, N, ext, rx, L) (q_ws I [(457, r0.2.1), (459, r0.2.2.1), (464, r0.2.2.2.1), (465, r0.2.2.2.2.1), (466, r0.2.2.2.2.2.1), (467, r0.2.2.2.2.2.2.1), (468, r0.2.2.2.2.2.2.2.1), (469, r0.2.2.2.2.2.2.2.2)]) (q_ws E [])) := by
  rw [f_X12_sweepLoft] at hf
  refine q_Ct_of ok_X12_sweepLoft (Nat.le_of_ble_eq_true rfl) ?_ _ rfl rfl
  change q_J g m_X12_sweepLoft d 0 0 _ [] _ 0 0 (q_kc (t, r, m, z, N, ext, rx, L) I E 0 [some (.ref 400)] [] [] [])
  refine q_blk 2 [] (c' := q_kc (t, r, m, z, N, ext, rx, L) I E 2 [some (.ref 400)] [.ref 457] [] []) ok_X12_sweepLoft rfl q_cn ?_
  obtain ⟨r1, hr1, hf⟩ := q_bd hf
  refine q_kV (M2 := m_X2_sweep) (As := []) (b := 457) (v2 := some (.int r1.1)) ok_X12_sweepLoft ok_X2_sweep cv_X2_sweep (ct_X2_sweep_457 (d := 5) (Nat.le_refl _) hr1) rfl rfl (Or.inl rfl) rfl rfl rfl rfl (Nat.le_trans (Nat.le_of_ble_eq_true rfl) hd) (Nat.le_of_ble_eq_true rfl) (Nat.le_of_ble_eq_true rfl) (Nat.le_of_ble_eq_true rfl) (fun x hx => absurd hx List.not_mem_nil) (q_nmL0 _) (q_nmS0 _) rfl (pos' := 3) (st' := [.int r1.1]) (lI' := [(457, r1.2.1), (459, r1.2.2.1), (464, r1.2.2.2.1), (465, r1.2.2.2.2.1), (466, r1.2.2.2.2.2.1), (467, r1.2.2.2.2.2.2.1), (468, r1.2.2.2.2.2.2.2.1), (469, r1.2.2.2.2.2.2.2.2)]) (lE' := []) rfl rfl (q_mgw rfl rfl) rfl ?_
  cases hf
  exact q_kri ok_X12_sweepLoft rfl rfl rfl (Nat.le_of_ble_eq_true rfl) (Nat.le_of_ble_eq_true rfl) ⟨rfl, q_hpe (q_pdw [457, 459, 464, 465, 466, 467, 468, 469] rfl rfl) (q_pdw [] rfl rfl)⟩
set_option maxHeartbeats 4000000 in
theorem ct_X12_checkWork_400 {g : q_G} {t : Nat} {r : Nat} {m : Nat} {z : Nat} {N : Nat} {ext : Nat → q_Sh} {rx : Nat → Nat → Option Nat} {L : Nat → Nat → Int64} {d : Nat} (hd : 6 ≤ d)  {I : Nat → Nat → Int32} {E : Nat → Nat → Option Nat} {x1 : Int32} {r0 : (Unit ⊕ String)} (hf : f_X12_checkWork (I 402) x1 = some r0) : q_Ct g m_X12_checkWork d 2 12 [] [.ref 400, .int x1] (q_hp (t, r, m, z, N, ext, rx, L) I E) (fun o h' => o = q_oV r0 ∧ h' = q_hp (t, r, m, z, N, ext, rx, L) (q_ws I []) (q_ws E [])) := by
  rw [f_X12_checkWork] at hf
  refine q_Ct_of ok_X12_checkWork (Nat.le_of_ble_eq_true rfl) ?_ _ rfl rfl
  change q_J g m_X12_checkWork d 2 12 _ [] _ 0 0 (q_kc (t, r, m, z, N, ext, rx, L) I E 0 [some (.ref 400), some (.int x1)] [] [] [])
  refine q_blf 2 [] (a := q_kc (t, r, m, z, N, ext, rx, L) I E 6 [some (.ref 400), some (.int x1)] [] [] []) (b := q_kc (t, r, m, z, N, ext, rx, L) I E 3 [some (.ref 400), some (.int x1)] [] [] []) (P := x1 < (1 : Int32)) ok_X12_checkWork rfl q_cn (fun h1 => ?_) (fun h1 => ?_)
  · have hf := q_ip h1 hf
    cases hf
    exact q_o_throwSW ok_X12_checkWork rfl rfl rfl rfl rfl rfl q_inIAE msg_9 thr_1 q_fitIAE q_fits (Nat.le_trans (Nat.le_of_ble_eq_true rfl) hd) (Nat.le_of_ble_eq_true rfl) (Nat.le_of_ble_eq_true rfl) (Nat.le_of_ble_eq_true rfl) ⟨rfl, q_hpe (q_pdw [] rfl rfl) (q_pdw [] rfl rfl)⟩
  · have hf := q_in h1 hf
    refine q_blf 2 [] (a := q_kc (t, r, m, z, N, ext, rx, L) I E 11 [some (.ref 400), some (.int x1)] [] [] []) (b := q_kc (t, r, m, z, N, ext, rx, L) I E 6 [some (.ref 400), some (.int x1)] [] [] []) (P := x1 ≤ (100 : Int32)) ok_X12_checkWork rfl q_cn (fun h2 => ?_) (fun h2 => ?_)
    · have hf := q_ip h2 hf
      refine q_blf 3 [] (a := q_kc (t, r, m, z, N, ext, rx, L) I E 20 [some (.ref 400), some (.int x1)] [] [] []) (b := q_kc (t, r, m, z, N, ext, rx, L) I E 15 [some (.ref 400), some (.int x1)] [] [] []) (P := ¬ ((I 402) 4) = 0) ok_X12_checkWork rfl q_cn (fun h3 => ?_) (fun h3 => ?_)
      · have hf := q_ip h3 hf
        cases hf
        exact q_krv ok_X12_checkWork rfl rfl (Nat.le_of_ble_eq_true rfl) (Nat.le_of_ble_eq_true rfl) ⟨rfl, q_hpe (q_pdw [] rfl rfl) (q_pdw [] rfl rfl)⟩
      · have hf := q_in h3 hf
        cases hf
        exact q_o_throwSW ok_X12_checkWork rfl rfl rfl rfl rfl rfl q_inISE msg_10 thr_0 q_fitISE q_fits (Nat.le_trans (Nat.le_of_ble_eq_true rfl) hd) (Nat.le_of_ble_eq_true rfl) (Nat.le_of_ble_eq_true rfl) (Nat.le_of_ble_eq_true rfl) ⟨rfl, q_hpe (q_pdw [] rfl rfl) (q_pdw [] rfl rfl)⟩
    · have hf := q_in h2 hf
      cases hf
      exact q_o_throwSW ok_X12_checkWork rfl rfl rfl rfl rfl rfl q_inIAE msg_9 thr_1 q_fitIAE q_fits (Nat.le_trans (Nat.le_of_ble_eq_true rfl) hd) (Nat.le_of_ble_eq_true rfl) (Nat.le_of_ble_eq_true rfl) (Nat.le_of_ble_eq_true rfl) ⟨rfl, q_hpe (q_pdw [] rfl rfl) (q_pdw [] rfl rfl)⟩
set_option maxHeartbeats 4000000 in
theorem ct_X6_stepWith_402 {g : q_G} {t : Nat} {r : Nat} {m : Nat} {z : Nat} {N : Nat} {ext : Nat → q_Sh} {rx : Nat → Nat → Option Nat} {L : Nat → Nat → Int64} {d : Nat} (hd : 2 ≤ d)  {I : Nat → Nat → Int32} {E : Nat → Nat → Option Nat} {x1 : Int32} {r0 : Nat} (hf : f_X6_stepWith x1 = some r0) : q_Ct g m_X6_stepWith d 0 0 [] [.ref 402, .int x1] (q_hp (t, r, m, z, N, ext, rx, L) I E) (fun o h' => o = .inl (some (.ref (406 + r0))) ∧ h' = q_hp (t, r, m, z, N, ext, rx, L) (q_ws I []) (q_ws E [])) := by
  rw [f_X6_stepWith] at hf
  refine q_Ct_of ok_X6_stepWith (Nat.le_of_ble_eq_true rfl) ?_ _ rfl rfl
  change q_J g m_X6_stepWith d 0 0 _ [] _ 0 0 (q_kc (t, r, m, z, N, ext, rx, L) I E 0 [some (.ref 402), some (.int x1)] [] [] [])
  refine q_blk 4 [] (c' := q_kc (t, r, m, z, N, ext, rx, L) I E 4 [some (.ref 402), some (.int x1)] [.int (0 : Int32), .int x1, .ref 403] [] []) ok_X6_stepWith rfl q_cn ?_
  refine q_kmx (pos' := 5) ok_X6_stepWith rfl rfl (Nat.le_trans (Nat.le_of_ble_eq_true rfl) hd) (Nat.le_of_ble_eq_true rfl) (Nat.le_of_ble_eq_true rfl) (Nat.le_of_ble_eq_true rfl) rfl ?_
  refine q_blk 1 [] (c' := q_kc (t, r, m, z, N, ext, rx, L) I E 6 [some (.ref 402), some (.int x1)] [.int (19 : Int32), .int (q_max x1 (0 : Int32)), .ref 403] [] []) ok_X6_stepWith rfl q_cn ?_
  refine q_kmn (pos' := 7) ok_X6_stepWith rfl rfl (Nat.le_trans (Nat.le_of_ble_eq_true rfl) hd) (Nat.le_of_ble_eq_true rfl) (Nat.le_of_ble_eq_true rfl) (Nat.le_of_ble_eq_true rfl) rfl ?_
  obtain ⟨j1, hj1, hf⟩ := q_bd hf
  refine q_ktold (pos' := 8) ok_X6_stepWith rfl (Or.inl ⟨rfl, rfl⟩) hj1 rfl ?_
  cases hf
  exact q_kra ok_X6_stepWith rfl rfl (Nat.le_of_ble_eq_true rfl) (Nat.le_of_ble_eq_true rfl) ⟨rfl, q_hpe (q_pdw [] rfl rfl) (q_pdw [] rfl rfl)⟩
set_option maxHeartbeats 4000000 in
theorem ct_X10_hasTest_T406 {g : q_G} {t : Nat} {r : Nat} {m : Nat} {z : Nat} {N : Nat} {ext : Nat → q_Sh} {rx : Nat → Nat → Option Nat} {L : Nat → Nat → Int64} {d : Nat} (hd : 1 ≤ d)  {I : Nat → Nat → Int32} {E : Nat → Nat → Option Nat} {T1 : Nat → Nat → Int32} {x0 : Nat} {r0 : Bool} (hf : f_X10_hasTest T1 x0 = some r0) (hTa : T1 = q_tR I 406) : q_Ct g m_X10_hasTest d 0 0 [] [.ref (406 + x0)] (q_hp (t, r, m, z, N, ext, rx, L) I E) (fun o h' => o = .inl (some (.int (q_bz r0))) ∧ h' = q_hp (t, r, m, z, N, ext, rx, L) (q_ws I []) (q_ws E [])) := by
  rw [f_X10_hasTest] at hf
  refine q_Ct_of ok_X10_hasTest (Nat.le_of_ble_eq_true rfl) ?_ _ rfl rfl
  change q_J g m_X10_hasTest d 0 0 _ [] _ 0 0 (q_kc (t, r, m, z, N, ext, rx, L) I E 0 [some (.ref (406 + x0))] [] [] [])
  obtain ⟨ug0, hg0, hf⟩ := q_bd hf
  refine q_blk 1 [] (c' := q_kc (t, r, m, z, N, ext, rx, L) I E 1 [some (.ref (406 + x0))] [.ref (406 + x0)] [] []) ok_X10_hasTest rfl q_cn ?_
  refine q_kgT (pos' := 2) (x := (T1 x0 7)) ok_X10_hasTest rfl (Or.inl rfl) (q_t20_lt hg0) rfl rfl (q_wsT1 (q_t20_lt hg0) rfl hTa) rfl ?_
  refine q_blk 1 [] (c' := q_kc (t, r, m, z, N, ext, rx, L) I E 3 [some (.ref (406 + x0))] [.ref (406 + x0), .int (T1 x0 7)] [] []) ok_X10_hasTest rfl q_cn ?_
  refine q_kgT (pos' := 4) (x := (T1 x0 6)) ok_X10_hasTest rfl (Or.inl rfl) (q_t20_lt hg0) rfl rfl (q_wsT1 (q_t20_lt hg0) rfl hTa) rfl ?_
  refine q_blf 0 [] (a := q_kc (t, r, m, z, N, ext, rx, L) I E 7 [some (.ref (406 + x0))] [] [] []) (b := q_kc (t, r, m, z, N, ext, rx, L) I E 5 [some (.ref (406 + x0))] [] [] []) (P := (T1 x0 7) ≤ (T1 x0 6)) ok_X10_hasTest rfl q_cn (fun h1 => ?_) (fun h1 => ?_)
  · have hf := q_ip h1 hf
    refine q_blk 1 [] (c' := q_kc (t, r, m, z, N, ext, rx, L) I E 8 [some (.ref (406 + x0))] [.int (0 : Int32)] [] []) ok_X10_hasTest rfl q_cn ?_
    cases hf
    exact q_kri ok_X10_hasTest rfl rfl rfl (Nat.le_of_ble_eq_true rfl) (Nat.le_of_ble_eq_true rfl) ⟨rfl, q_hpe (q_pdw [] rfl rfl) (q_pdw [] rfl rfl)⟩
  · have hf := q_in h1 hf
    refine q_blk 2 [] (c' := q_kc (t, r, m, z, N, ext, rx, L) I E 8 [some (.ref (406 + x0))] [.int (1 : Int32)] [] []) ok_X10_hasTest rfl q_cn ?_
    cases hf
    exact q_kri ok_X10_hasTest rfl rfl rfl (Nat.le_of_ble_eq_true rfl) (Nat.le_of_ble_eq_true rfl) ⟨rfl, q_hpe (q_pdw [] rfl rfl) (q_pdw [] rfl rfl)⟩
set_option maxHeartbeats 4000000 in
theorem ct_X6_isOrder_402 {g : q_G} {t : Nat} {r : Nat} {m : Nat} {z : Nat} {N : Nat} {ext : Nat → q_Sh} {rx : Nat → Nat → Option Nat} {L : Nat → Nat → Int64} {d : Nat} (hd : 1 ≤ d)  {I : Nat → Nat → Int32} {E : Nat → Nat → Option Nat} {x1 : Int32} {r0 : Bool} (hf : f_X6_isOrder (I 402) x1 = some r0) : q_Ct g m_X6_isOrder d 0 0 [] [.ref 402, .int x1] (q_hp (t, r, m, z, N, ext, rx, L) I E) (fun o h' => o = .inl (some (.int (q_bz r0))) ∧ h' = q_hp (t, r, m, z, N, ext, rx, L) (q_ws I []) (q_ws E [])) := by
  rw [f_X6_isOrder] at hf
  refine q_Ct_of ok_X6_isOrder (Nat.le_of_ble_eq_true rfl) ?_ _ rfl rfl
  change q_J g m_X6_isOrder d 0 0 _ [] _ 0 0 (q_kc (t, r, m, z, N, ext, rx, L) I E 0 [some (.ref 402), some (.int x1)] [] [] [])
  refine q_blf 1 [] (a := q_kc (t, r, m, z, N, ext, rx, L) I E 11 [some (.ref 402), some (.int x1)] [] [] []) (b := q_kc (t, r, m, z, N, ext, rx, L) I E 2 [some (.ref 402), some (.int x1)] [] [] []) (P := x1 < 0) ok_X6_isOrder rfl q_cn (fun h1 => ?_) (fun h1 => ?_)
  · have hf := q_ip h1 hf
    refine q_blk 1 [] (c' := q_kc (t, r, m, z, N, ext, rx, L) I E 12 [some (.ref 402), some (.int x1)] [.int (0 : Int32)] [] []) ok_X6_isOrder rfl q_cn ?_
    cases hf
    exact q_kri ok_X6_isOrder rfl rfl rfl (Nat.le_of_ble_eq_true rfl) (Nat.le_of_ble_eq_true rfl) ⟨rfl, q_hpe (q_pdw [] rfl rfl) (q_pdw [] rfl rfl)⟩
  · have hf := q_in h1 hf
    refine q_blf 3 [] (a := q_kc (t, r, m, z, N, ext, rx, L) I E 11 [some (.ref 402), some (.int x1)] [] [] []) (b := q_kc (t, r, m, z, N, ext, rx, L) I E 6 [some (.ref 402), some (.int x1)] [] [] []) (P := ((I 402) 5) ≤ x1) ok_X6_isOrder rfl q_cn (fun h2 => ?_) (fun h2 => ?_)
    · have hf := q_ip h2 hf
      refine q_blk 1 [] (c' := q_kc (t, r, m, z, N, ext, rx, L) I E 12 [some (.ref 402), some (.int x1)] [.int (0 : Int32)] [] []) ok_X6_isOrder rfl q_cn ?_
      cases hf
      exact q_kri ok_X6_isOrder rfl rfl rfl (Nat.le_of_ble_eq_true rfl) (Nat.le_of_ble_eq_true rfl) ⟨rfl, q_hpe (q_pdw [] rfl rfl) (q_pdw [] rfl rfl)⟩
    · have hf := q_in h2 hf
      refine q_blf 2 [] (a := q_kc (t, r, m, z, N, ext, rx, L) I E 11 [some (.ref 402), some (.int x1)] [] [] []) (b := q_kc (t, r, m, z, N, ext, rx, L) I E 9 [some (.ref 402), some (.int x1)] [] [] []) (P := (400 : Int32) ≤ x1) ok_X6_isOrder rfl q_cn (fun h3 => ?_) (fun h3 => ?_)
      · have hf := q_ip h3 hf
        refine q_blk 1 [] (c' := q_kc (t, r, m, z, N, ext, rx, L) I E 12 [some (.ref 402), some (.int x1)] [.int (0 : Int32)] [] []) ok_X6_isOrder rfl q_cn ?_
        cases hf
        exact q_kri ok_X6_isOrder rfl rfl rfl (Nat.le_of_ble_eq_true rfl) (Nat.le_of_ble_eq_true rfl) ⟨rfl, q_hpe (q_pdw [] rfl rfl) (q_pdw [] rfl rfl)⟩
      · have hf := q_in h3 hf
        refine q_blk 2 [] (c' := q_kc (t, r, m, z, N, ext, rx, L) I E 12 [some (.ref 402), some (.int x1)] [.int (1 : Int32)] [] []) ok_X6_isOrder rfl q_cn ?_
        cases hf
        exact q_kri ok_X6_isOrder rfl rfl rfl (Nat.le_of_ble_eq_true rfl) (Nat.le_of_ble_eq_true rfl) ⟨rfl, q_hpe (q_pdw [] rfl rfl) (q_pdw [] rfl rfl)⟩
set_option maxHeartbeats 4000000 in
theorem ct_X6_order_402 {g : q_G} {t : Nat} {r : Nat} {m : Nat} {z : Nat} {N : Nat} {ext : Nat → q_Sh} {rx : Nat → Nat → Option Nat} {L : Nat → Nat → Int64} {d : Nat} (hd : 2 ≤ d)  {I : Nat → Nat → Int32} {E : Nat → Nat → Option Nat} {x1 : Int32} {r0 : Nat} (hf : f_X6_order (I 402) (E 404) x1 = some r0) : q_Ct g m_X6_order d 0 0 [] [.ref 402, .int x1] (q_hp (t, r, m, z, N, ext, rx, L) I E) (fun o h' => o = .inl (some (.ref r0)) ∧ h' = q_hp (t, r, m, z, N, ext, rx, L) (q_ws I []) (q_ws E [])) := by
  rw [f_X6_order] at hf
  refine q_Ct_of ok_X6_order (Nat.le_of_ble_eq_true rfl) ?_ _ rfl rfl
  change q_J g m_X6_order d 0 0 _ [] _ 0 0 (q_kc (t, r, m, z, N, ext, rx, L) I E 0 [some (.ref 402), some (.int x1), none] [] [] [])
  refine q_blk 2 [] (c' := q_kc (t, r, m, z, N, ext, rx, L) I E 2 [some (.ref 402), some (.int x1), none] [.int x1, .ref 402] [] []) ok_X6_order rfl q_cn ?_
  obtain ⟨r1, hr1, hf⟩ := q_bd hf
  refine q_kV (M2 := m_X6_isOrder) (As := [.int x1]) (b := 402) (v2 := some (.int (q_bz r1))) ok_X6_order ok_X6_isOrder cv_X6_isOrder (ct_X6_isOrder_402 (d := 1) (Nat.le_refl _) hr1) rfl rfl (Or.inl rfl) rfl rfl rfl rfl (Nat.le_trans (Nat.le_of_ble_eq_true rfl) hd) (Nat.le_of_ble_eq_true rfl) (Nat.le_of_ble_eq_true rfl) (Nat.le_of_ble_eq_true rfl) (fun x hx => absurd hx List.not_mem_nil) (q_nmL0 _) (q_nmS0 _) rfl (pos' := 3) (st' := [.int (q_bz r1)]) (lI' := []) (lE' := []) rfl rfl rfl rfl ?_
  refine q_blf 0 [] (a := q_kc (t, r, m, z, N, ext, rx, L) I E 9 [some (.ref 402), some (.int x1), none] [] [] []) (b := q_kc (t, r, m, z, N, ext, rx, L) I E 4 [some (.ref 402), some (.int x1), none] [] [] []) (P := (q_bz r1) = 0) ok_X6_order rfl q_cn (fun h2 => ?_) (fun h2 => ?_)
  · have hf := q_ip h2 hf
    refine q_blk 5 [] (c' := q_kc (t, r, m, z, N, ext, rx, L) I E 16 [some (.ref 402), some (.int x1), some (.ref 1)] [.ref 1] [] []) ok_X6_order rfl q_cn ?_
    cases hf
    exact q_kra ok_X6_order rfl rfl (Nat.le_of_ble_eq_true rfl) (Nat.le_of_ble_eq_true rfl) ⟨rfl, q_hpe (q_pdw [] rfl rfl) (q_pdw [] rfl rfl)⟩
  · have hf := q_in h2 hf
    obtain ⟨j3, hj3, hf⟩ := q_bd hf
    refine q_blk 3 [] (c' := q_kc (t, r, m, z, N, ext, rx, L) I E 7 [some (.ref 402), some (.int x1), none] [.int x1, .ref 404] [] []) ok_X6_order rfl q_cn ?_
    refine q_kaE (o := ((E 404) j3)) (pos' := 8) ok_X6_order rfl rfl rfl hj3 rfl rfl rfl (fun hb5 => ?_) (fun b4 hb5 hl6 => ?_)
    · have hf := q_on0 hb5 hf
      refine q_blk 6 [] (c' := q_kc (t, r, m, z, N, ext, rx, L) I E 16 [some (.ref 402), some (.int x1), some (.null)] [.ref 1] [] []) ok_X6_order rfl q_cn ?_
      cases hf
      exact q_kra ok_X6_order rfl rfl (Nat.le_of_ble_eq_true rfl) (Nat.le_of_ble_eq_true rfl) ⟨rfl, q_hpe (q_pdw [] rfl rfl) (q_pdw [] rfl rfl)⟩
    · have hf := q_on1 hb5 hf
      refine q_blk 5 [] (c' := q_kc (t, r, m, z, N, ext, rx, L) I E 16 [some (.ref 402), some (.int x1), some (.ref b4)] [.ref b4] [] []) ok_X6_order rfl q_cn ?_
      cases hf
      exact q_kra ok_X6_order rfl rfl (Nat.le_of_ble_eq_true rfl) (Nat.le_of_ble_eq_true rfl) ⟨rfl, q_hpe (q_pdw [] rfl rfl) (q_pdw [] rfl rfl)⟩
set_option maxHeartbeats 4000000 in
theorem ct_X6_orderNumber_402 {g : q_G} {t : Nat} {r : Nat} {m : Nat} {z : Nat} {N : Nat} {ext : Nat → q_Sh} {rx : Nat → Nat → Option Nat} {L : Nat → Nat → Int64} {d : Nat} (hd : 2 ≤ d)  {I : Nat → Nat → Int32} {E : Nat → Nat → Option Nat} {x1 : Int32} {r0 : Int32} (hf : f_X6_orderNumber (I 402) (I 405) x1 = some r0) : q_Ct g m_X6_orderNumber d 0 0 [] [.ref 402, .int x1] (q_hp (t, r, m, z, N, ext, rx, L) I E) (fun o h' => o = .inl (some (.int r0)) ∧ h' = q_hp (t, r, m, z, N, ext, rx, L) (q_ws I []) (q_ws E [])) := by
  rw [f_X6_orderNumber] at hf
  refine q_Ct_of ok_X6_orderNumber (Nat.le_of_ble_eq_true rfl) ?_ _ rfl rfl
  change q_J g m_X6_orderNumber d 0 0 _ [] _ 0 0 (q_kc (t, r, m, z, N, ext, rx, L) I E 0 [some (.ref 402), some (.int x1)] [] [] [])
  refine q_blk 2 [] (c' := q_kc (t, r, m, z, N, ext, rx, L) I E 2 [some (.ref 402), some (.int x1)] [.int x1, .ref 402] [] []) ok_X6_orderNumber rfl q_cn ?_
  obtain ⟨r1, hr1, hf⟩ := q_bd hf
  refine q_kV (M2 := m_X6_isOrder) (As := [.int x1]) (b := 402) (v2 := some (.int (q_bz r1))) ok_X6_orderNumber ok_X6_isOrder cv_X6_isOrder (ct_X6_isOrder_402 (d := 1) (Nat.le_refl _) hr1) rfl rfl (Or.inl rfl) rfl rfl rfl rfl (Nat.le_trans (Nat.le_of_ble_eq_true rfl) hd) (Nat.le_of_ble_eq_true rfl) (Nat.le_of_ble_eq_true rfl) (Nat.le_of_ble_eq_true rfl) (fun x hx => absurd hx List.not_mem_nil) (q_nmL0 _) (q_nmS0 _) rfl (pos' := 3) (st' := [.int (q_bz r1)]) (lI' := []) (lE' := []) rfl rfl rfl rfl ?_
  refine q_blf 0 [] (a := q_kc (t, r, m, z, N, ext, rx, L) I E 9 [some (.ref 402), some (.int x1)] [] [] []) (b := q_kc (t, r, m, z, N, ext, rx, L) I E 4 [some (.ref 402), some (.int x1)] [] [] []) (P := (q_bz r1) = 0) ok_X6_orderNumber rfl q_cn (fun h2 => ?_) (fun h2 => ?_)
  · have hf := q_ip h2 hf
    refine q_blk 1 [] (c' := q_kc (t, r, m, z, N, ext, rx, L) I E 10 [some (.ref 402), some (.int x1)] [.int (0 : Int32)] [] []) ok_X6_orderNumber rfl q_cn ?_
    cases hf
    exact q_kri ok_X6_orderNumber rfl rfl rfl (Nat.le_of_ble_eq_true rfl) (Nat.le_of_ble_eq_true rfl) ⟨rfl, q_hpe (q_pdw [] rfl rfl) (q_pdw [] rfl rfl)⟩
  · have hf := q_in h2 hf
    obtain ⟨j3, hj3, hf⟩ := q_bd hf
    refine q_blk 5 [j3] (c' := q_kc (t, r, m, z, N, ext, rx, L) I E 10 [some (.ref 402), some (.int x1)] [.int ((I 405) j3)] [] []) ok_X6_orderNumber rfl (q_cc hj3 q_cn) ?_
    cases hf
    exact q_kri ok_X6_orderNumber rfl rfl rfl (Nat.le_of_ble_eq_true rfl) (Nat.le_of_ble_eq_true rfl) ⟨rfl, q_hpe (q_pdw [] rfl rfl) (q_pdw [] rfl rfl)⟩
set_option maxHeartbeats 4000000 in
theorem ct_X8_pop_490 {g : q_G} {t : Nat} {r : Nat} {m : Nat} {z : Nat} {N : Nat} {ext : Nat → q_Sh} {rx : Nat → Nat → Option Nat} {L : Nat → Nat → Int64} {d : Nat} (hd : 1 ≤ d)  {I : Nat → Nat → Int32} {E : Nat → Nat → Option Nat} {r0 : Int32 × (Nat → Int32)} (hf : f_X8_pop (I 490) (I 491) = some r0) : q_Ct g m_X8_pop d 0 0 [] [.ref 490] (q_hp (t, r, m, z, N, ext, rx, L) I E) (fun o h' => o = .inl (some (.int r0.1)) ∧ h' = q_hp (t, r, m, z, N, ext, rx, L) (q_ws I [(490, r0.2)]) (q_ws E [])) := by
  rw [f_X8_pop] at hf
  refine q_Ct_of ok_X8_pop (Nat.le_of_ble_eq_true rfl) ?_ _ rfl rfl
  change q_J g m_X8_pop d 0 0 _ [] _ 0 0 (q_kc (t, r, m, z, N, ext, rx, L) I E 0 [some (.ref 490)] [] [] [])
  refine q_blf 2 [] (a := q_kc (t, r, m, z, N, ext, rx, L) I E 7 [some (.ref 490)] [] [] []) (b := q_kc (t, r, m, z, N, ext, rx, L) I E 3 [some (.ref 490)] [] [] []) (P := ((I 490) 1) ≤ 0) ok_X8_pop rfl q_cn (fun h1 => ?_) (fun h1 => ?_)
  · have hf := q_ip h1 hf
    refine q_blk 1 [] (c' := q_kc (t, r, m, z, N, ext, rx, L) I E 8 [some (.ref 490)] [.int (0 : Int32)] [] []) ok_X8_pop rfl q_cn ?_
    cases hf
    exact q_kri ok_X8_pop rfl rfl rfl (Nat.le_of_ble_eq_true rfl) (Nat.le_of_ble_eq_true rfl) ⟨rfl, q_hpe (q_pdw [490] rfl rfl) (q_pdw [] rfl rfl)⟩
  · have hf := q_in h1 hf
    refine q_blf 3 [] (a := q_kc (t, r, m, z, N, ext, rx, L) I E 9 [some (.ref 490)] [] [] []) (b := q_kc (t, r, m, z, N, ext, rx, L) I E 7 [some (.ref 490)] [] [] []) (P := ((I 490) 1) ≤ (400 : Int32)) ok_X8_pop rfl q_cn (fun h2 => ?_) (fun h2 => ?_)
    · have hf := q_ip h2 hf
      obtain ⟨j3, hj3, hf⟩ := q_bd hf
      refine q_blk 11 [j3] (c' := q_kc (t, r, m, z, N, ext, rx, L) I E 20 [some (.ref 490)] [.int ((I 491) j3)] [(490, (q_up (I 490) 1 (((I 490) 1) - (1 : Int32))))] []) ok_X8_pop rfl (q_cc hj3 q_cn) ?_
      cases hf
      exact q_kri ok_X8_pop rfl rfl rfl (Nat.le_of_ble_eq_true rfl) (Nat.le_of_ble_eq_true rfl) ⟨rfl, q_hpe (q_pdw [490] rfl rfl) (q_pdw [] rfl rfl)⟩
    · have hf := q_in h2 hf
      refine q_blk 1 [] (c' := q_kc (t, r, m, z, N, ext, rx, L) I E 8 [some (.ref 490)] [.int (0 : Int32)] [] []) ok_X8_pop rfl q_cn ?_
      cases hf
      exact q_kri ok_X8_pop rfl rfl rfl (Nat.le_of_ble_eq_true rfl) (Nat.le_of_ble_eq_true rfl) ⟨rfl, q_hpe (q_pdw [490] rfl rfl) (q_pdw [] rfl rfl)⟩
set_option maxHeartbeats 4000000 in
theorem ct_X8_push_490 {g : q_G} {t : Nat} {r : Nat} {m : Nat} {z : Nat} {N : Nat} {ext : Nat → q_Sh} {rx : Nat → Nat → Option Nat} {L : Nat → Nat → Int64} {d : Nat} (hd : 1 ≤ d)  {I : Nat → Nat → Int32} {E : Nat → Nat → Option Nat} {x1 : Int32} {r0 : (Nat → Int32) × (Nat → Int32)} (hf : f_X8_push (I 490) (I 491) x1 = some r0) : q_Ct g m_X8_push d 0 0 [] [.ref 490, .int x1] (q_hp (t, r, m, z, N, ext, rx, L) I E) (fun o h' => o = .inl none ∧ h' = q_hp (t, r, m, z, N, ext, rx, L) (q_ws I [(490, r0.1), (491, r0.2)]) (q_ws E [])) := by
  rw [f_X8_push] at hf
  refine q_Ct_of ok_X8_push (Nat.le_of_ble_eq_true rfl) ?_ _ rfl rfl
  change q_J g m_X8_push d 0 0 _ [] _ 0 0 (q_kc (t, r, m, z, N, ext, rx, L) I E 0 [some (.ref 490), some (.int x1)] [] [] [])
  refine q_blf 2 [] (a := q_kc (t, r, m, z, N, ext, rx, L) I E 19 [some (.ref 490), some (.int x1)] [] [] []) (b := q_kc (t, r, m, z, N, ext, rx, L) I E 3 [some (.ref 490), some (.int x1)] [] [] []) (P := ((I 490) 1) < 0) ok_X8_push rfl q_cn (fun h1 => ?_) (fun h1 => ?_)
  · have hf := q_ip h1 hf
    cases hf
    exact q_krv ok_X8_push rfl rfl (Nat.le_of_ble_eq_true rfl) (Nat.le_of_ble_eq_true rfl) ⟨rfl, q_hpe (q_pdw [490, 491] rfl rfl) (q_pdw [] rfl rfl)⟩
  · have hf := q_in h1 hf
    refine q_blf 3 [] (a := q_kc (t, r, m, z, N, ext, rx, L) I E 19 [some (.ref 490), some (.int x1)] [] [] []) (b := q_kc (t, r, m, z, N, ext, rx, L) I E 7 [some (.ref 490), some (.int x1)] [] [] []) (P := (400 : Int32) ≤ ((I 490) 1)) ok_X8_push rfl q_cn (fun h2 => ?_) (fun h2 => ?_)
    · have hf := q_ip h2 hf
      cases hf
      exact q_krv ok_X8_push rfl rfl (Nat.le_of_ble_eq_true rfl) (Nat.le_of_ble_eq_true rfl) ⟨rfl, q_hpe (q_pdw [490, 491] rfl rfl) (q_pdw [] rfl rfl)⟩
    · have hf := q_in h2 hf
      obtain ⟨j3, hj3, hf⟩ := q_bd hf
      refine q_blk 12 [j3] (c' := q_kc (t, r, m, z, N, ext, rx, L) I E 19 [some (.ref 490), some (.int x1)] [] [(490, (q_up (I 490) 1 (((I 490) 1) + (1 : Int32)))), (491, (q_up (I 491) j3 x1))] []) ok_X8_push rfl (q_cc hj3 q_cn) ?_
      cases hf
      exact q_krv ok_X8_push rfl rfl (Nat.le_of_ble_eq_true rfl) (Nat.le_of_ble_eq_true rfl) ⟨rfl, q_hpe (q_pdw [490, 491] rfl rfl) (q_pdw [] rfl rfl)⟩
set_option maxHeartbeats 4000000 in
theorem ct_X8_one {g : q_G} {t : Nat} {r : Nat} {m : Nat} {z : Nat} {N : Nat} {ext : Nat → q_Sh} {rx : Nat → Nat → Option Nat} {L : Nat → Nat → Int64} {d : Nat} (hd : 1 ≤ d)  {I : Nat → Nat → Int32} {E : Nat → Nat → Option Nat} {x0 : Bool} {r0 : Int32} (hf : f_X8_one x0 = some r0) : q_Ct g m_X8_one d 0 0 [] [.int (q_bz x0)] (q_hp (t, r, m, z, N, ext, rx, L) I E) (fun o h' => o = .inl (some (.int r0)) ∧ h' = q_hp (t, r, m, z, N, ext, rx, L) (q_ws I []) (q_ws E [])) := by
  rw [f_X8_one] at hf
  refine q_Ct_of ok_X8_one (Nat.le_of_ble_eq_true rfl) ?_ _ rfl rfl
  change q_J g m_X8_one d 0 0 _ [] _ 0 0 (q_kc (t, r, m, z, N, ext, rx, L) I E 0 [some (.int (q_bz x0))] [] [] [])
  refine q_blf 1 [] (a := q_kc (t, r, m, z, N, ext, rx, L) I E 4 [some (.int (q_bz x0))] [] [] []) (b := q_kc (t, r, m, z, N, ext, rx, L) I E 2 [some (.int (q_bz x0))] [] [] []) (P := (q_bz x0) = 0) ok_X8_one rfl q_cn (fun h1 => ?_) (fun h1 => ?_)
  · have hf := q_ip h1 hf
    refine q_blk 1 [] (c' := q_kc (t, r, m, z, N, ext, rx, L) I E 5 [some (.int (q_bz x0))] [.int (0 : Int32)] [] []) ok_X8_one rfl q_cn ?_
    cases hf
    exact q_kri ok_X8_one rfl rfl rfl (Nat.le_of_ble_eq_true rfl) (Nat.le_of_ble_eq_true rfl) ⟨rfl, q_hpe (q_pdw [] rfl rfl) (q_pdw [] rfl rfl)⟩
  · have hf := q_in h1 hf
    refine q_blk 2 [] (c' := q_kc (t, r, m, z, N, ext, rx, L) I E 5 [some (.int (q_bz x0))] [.int (1 : Int32)] [] []) ok_X8_one rfl q_cn ?_
    cases hf
    exact q_kri ok_X8_one rfl rfl rfl (Nat.le_of_ble_eq_true rfl) (Nat.le_of_ble_eq_true rfl) ⟨rfl, q_hpe (q_pdw [] rfl rfl) (q_pdw [] rfl rfl)⟩
set_option maxHeartbeats 4000000 in
theorem ct_X8_value_457 {g : q_G} {t : Nat} {r : Nat} {m : Nat} {z : Nat} {N : Nat} {ext : Nat → q_Sh} {rx : Nat → Nat → Option Nat} {L : Nat → Nat → Int64} {d : Nat} (hd : 2 ≤ d)  {I : Nat → Nat → Int32} {E : Nat → Nat → Option Nat} {x1 : Nat} {x2 : Int32} {r0 : Int32} (hf : f_X8_value (I 402) (I 457) (I 461) (I 462) (I 465) (I 470) x1 x2 = some r0) : q_Ct g m_X8_value d 0 0 [] [.ref 457, .ref x1, .int x2] (q_hp (t, r, m, z, N, ext, rx, L) I E) (fun o h' => o = .inl (some (.int r0)) ∧ h' = q_hp (t, r, m, z, N, ext, rx, L) (q_ws I []) (q_ws E [])) := by
  rw [f_X8_value] at hf
  refine q_Ct_of ok_X8_value (Nat.le_of_ble_eq_true rfl) ?_ _ rfl rfl
  change q_J g m_X8_value d 0 0 _ [] _ 0 0 (q_kc (t, r, m, z, N, ext, rx, L) I E 0 [some (.ref 457), some (.ref x1), some (.int x2)] [] [] [])
  obtain ⟨ug1, hg1, hf⟩ := q_bd hf
  refine q_blk 2 [] (c' := q_kc (t, r, m, z, N, ext, rx, L) I E 2 [some (.ref 457), some (.ref x1), some (.int x2)] [.ref x1, .ref 50] [] []) ok_X8_value rfl q_cn ?_
  refine q_kord (pos' := 3) ok_X8_value rfl rfl (q_e49_lt hg1) (Nat.le_trans (Nat.le_of_ble_eq_true rfl) hd) (Nat.le_of_ble_eq_true rfl) (Nat.le_of_ble_eq_true rfl) (Nat.le_of_ble_eq_true rfl) rfl ?_
  obtain ⟨j1, hj1, hf⟩ := q_bd hf
  refine q_blk 1 [j1] (c' := q_kc (t, r, m, z, N, ext, rx, L) I E 4 [some (.ref 457), some (.ref x1), some (.int x2)] [.int (q_sw j1)] [] []) ok_X8_value rfl (q_cc hj1 q_cn) ?_
  refine q_ksw [36, 46, 5, 7, 10, 13, 16, 19, 22, 29] ok_X8_value rfl (dp := 46) rfl (fun ix t9 ht9 hx9 => ?_) (fun hx9 => ?_) (by decide) (by decide)
  · match ix, ht9 with
    | 0, ht9 =>
      have hx9 : (q_sw j1) = 7 := hx9
      cases ht9
      have hf := q_ip hx9 hf
      refine q_blk 2 [] (c' := q_kc (t, r, m, z, N, ext, rx, L) I E 38 [some (.ref 457), some (.ref x1), some (.int x2)] [.int x2, .ref 457] [] []) ok_X8_value rfl q_cn ?_
      obtain ⟨r2, hr2, hf⟩ := q_bd hf
      refine q_kV (M2 := m_X2_held) (As := [.int x2]) (b := 457) (v2 := some (.int r2)) ok_X8_value ok_X2_held cv_X2_held (ct_X2_held_457 (d := 1) (Nat.le_refl _) hr2) rfl rfl (Or.inl rfl) rfl rfl rfl rfl (Nat.le_trans (Nat.le_of_ble_eq_true rfl) hd) (Nat.le_of_ble_eq_true rfl) (Nat.le_of_ble_eq_true rfl) (Nat.le_of_ble_eq_true rfl) (fun x hx => absurd hx List.not_mem_nil) (q_nmL0 _) (q_nmS0 _) rfl (pos' := 39) (st' := [.int r2]) (lI' := []) (lE' := []) rfl rfl rfl rfl ?_
      refine q_blf 1 [] (a := q_kc (t, r, m, z, N, ext, rx, L) I E 43 [some (.ref 457), some (.ref x1), some (.int x2)] [] [] []) (b := q_kc (t, r, m, z, N, ext, rx, L) I E 41 [some (.ref 457), some (.ref x1), some (.int x2)] [] [] []) (P := r2 = (-1 : Int32)) ok_X8_value rfl q_cn (fun h3 => ?_) (fun h3 => ?_)
      · have hf := q_ip h3 hf
        refine q_blk 1 [] (c' := q_kc (t, r, m, z, N, ext, rx, L) I E 44 [some (.ref 457), some (.ref x1), some (.int x2)] [.int (0 : Int32)] [] []) ok_X8_value rfl q_cn ?_
        obtain ⟨r4, hr4, hf⟩ := q_bd hf
        refine q_kS (M2 := m_X8_one) (As := [.int (q_bz false)]) (v2 := some (.int r4)) ok_X8_value ok_X8_one cs_X8_one (ct_X8_one (d := 1) (Nat.le_refl _) hr4) rfl rfl (Or.inl rfl) (Nat.le_trans (Nat.le_of_ble_eq_true rfl) hd) (Nat.le_of_ble_eq_true rfl) (Nat.le_of_ble_eq_true rfl) (Nat.le_of_ble_eq_true rfl) (fun x hx => absurd hx List.not_mem_nil) (q_nmL0 _) (q_nmS0 _) rfl (pos' := 45) (st' := [.int r4]) (lI' := []) (lE' := []) rfl rfl rfl rfl ?_
        cases hf
        exact q_kri ok_X8_value rfl rfl rfl (Nat.le_of_ble_eq_true rfl) (Nat.le_of_ble_eq_true rfl) ⟨rfl, q_hpe (q_pdw [] rfl rfl) (q_pdw [] rfl rfl)⟩
      · have hf := q_in h3 hf
        refine q_blk 2 [] (c' := q_kc (t, r, m, z, N, ext, rx, L) I E 44 [some (.ref 457), some (.ref x1), some (.int x2)] [.int (1 : Int32)] [] []) ok_X8_value rfl q_cn ?_
        obtain ⟨r5, hr5, hf⟩ := q_bd hf
        refine q_kS (M2 := m_X8_one) (As := [.int (q_bz true)]) (v2 := some (.int r5)) ok_X8_value ok_X8_one cs_X8_one (ct_X8_one (d := 1) (Nat.le_refl _) hr5) rfl rfl (Or.inl rfl) (Nat.le_trans (Nat.le_of_ble_eq_true rfl) hd) (Nat.le_of_ble_eq_true rfl) (Nat.le_of_ble_eq_true rfl) (Nat.le_of_ble_eq_true rfl) (fun x hx => absurd hx List.not_mem_nil) (q_nmL0 _) (q_nmS0 _) rfl (pos' := 45) (st' := [.int r5]) (lI' := []) (lE' := []) rfl rfl rfl rfl ?_
        cases hf
        exact q_kri ok_X8_value rfl rfl rfl (Nat.le_of_ble_eq_true rfl) (Nat.le_of_ble_eq_true rfl) ⟨rfl, q_hpe (q_pdw [] rfl rfl) (q_pdw [] rfl rfl)⟩
    | 1, ht9 =>
      have hx9 : (q_sw j1) = 8 := hx9
      cases ht9
      have hf := q_in (fun hz9 => absurd (hx9.symm.trans hz9) (by decide)) hf
      have hf := q_ip hx9 hf
      refine q_blk 3 [] (c' := q_kc (t, r, m, z, N, ext, rx, L) I E 49 [some (.ref 457), some (.ref x1), some (.int x2)] [.int (6 : Int32), .int x2, .ref 457] [] []) ok_X8_value rfl q_cn ?_
      refine q_kdv (pos' := 50) ok_X8_value rfl (by decide) rfl ?_
      refine q_blk 2 [] (c' := q_kc (t, r, m, z, N, ext, rx, L) I E 52 [some (.ref 457), some (.ref x1), some (.int x2)] [.int (6 : Int32), .int x2, .int (x2 / (6 : Int32)), .ref 457] [] []) ok_X8_value rfl q_cn ?_
      refine q_krm (pos' := 53) ok_X8_value rfl (by decide) rfl ?_
      obtain ⟨r6, hr6, hf⟩ := q_bd hf
      refine q_kV (M2 := m_X2_sameHeld) (As := [.int (x2 / (6 : Int32)), .int (x2 - x2 / (6 : Int32) * (6 : Int32))]) (b := 457) (v2 := some (.int (q_bz r6))) ok_X8_value ok_X2_sameHeld cv_X2_sameHeld (ct_X2_sameHeld_457 (d := 1) (Nat.le_refl _) hr6) rfl rfl (Or.inl rfl) rfl rfl rfl rfl (Nat.le_trans (Nat.le_of_ble_eq_true rfl) hd) (Nat.le_of_ble_eq_true rfl) (Nat.le_of_ble_eq_true rfl) (Nat.le_of_ble_eq_true rfl) (fun x hx => absurd hx List.not_mem_nil) (q_nmL0 _) (q_nmS0 _) rfl (pos' := 54) (st' := [.int (q_bz r6)]) (lI' := []) (lE' := []) rfl rfl rfl rfl ?_
      obtain ⟨r7, hr7, hf⟩ := q_bd hf
      refine q_kS (M2 := m_X8_one) (As := [.int (q_bz r6)]) (v2 := some (.int r7)) ok_X8_value ok_X8_one cs_X8_one (ct_X8_one (d := 1) (Nat.le_refl _) hr7) rfl rfl (Or.inl rfl) (Nat.le_trans (Nat.le_of_ble_eq_true rfl) hd) (Nat.le_of_ble_eq_true rfl) (Nat.le_of_ble_eq_true rfl) (Nat.le_of_ble_eq_true rfl) (fun x hx => absurd hx List.not_mem_nil) (q_nmL0 _) (q_nmS0 _) rfl (pos' := 55) (st' := [.int r7]) (lI' := []) (lE' := []) rfl rfl rfl rfl ?_
      cases hf
      exact q_kri ok_X8_value rfl rfl rfl (Nat.le_of_ble_eq_true rfl) (Nat.le_of_ble_eq_true rfl) ⟨rfl, q_hpe (q_pdw [] rfl rfl) (q_pdw [] rfl rfl)⟩
    | 2, ht9 =>
      have hx9 : (q_sw j1) = 9 := hx9
      cases ht9
      have hf := q_in (fun hz9 => absurd (hx9.symm.trans hz9) (by decide)) hf
      have hf := q_in (fun hz9 => absurd (hx9.symm.trans hz9) (by decide)) hf
      have hf := q_ip hx9 hf
      refine q_blk 1 [] (c' := q_kc (t, r, m, z, N, ext, rx, L) I E 6 [some (.ref 457), some (.ref x1), some (.int x2)] [.int x2] [] []) ok_X8_value rfl q_cn ?_
      cases hf
      exact q_kri ok_X8_value rfl rfl rfl (Nat.le_of_ble_eq_true rfl) (Nat.le_of_ble_eq_true rfl) ⟨rfl, q_hpe (q_pdw [] rfl rfl) (q_pdw [] rfl rfl)⟩
    | 3, ht9 =>
      have hx9 : (q_sw j1) = 10 := hx9
      cases ht9
      have hf := q_in (fun hz9 => absurd (hx9.symm.trans hz9) (by decide)) hf
      have hf := q_in (fun hz9 => absurd (hx9.symm.trans hz9) (by decide)) hf
      have hf := q_in (fun hz9 => absurd (hx9.symm.trans hz9) (by decide)) hf
      have hf := q_ip hx9 hf
      refine q_blk 2 [] (c' := q_kc (t, r, m, z, N, ext, rx, L) I E 9 [some (.ref 457), some (.ref x1), some (.int x2)] [.int ((I 457) 10)] [] []) ok_X8_value rfl q_cn ?_
      cases hf
      exact q_kri ok_X8_value rfl rfl rfl (Nat.le_of_ble_eq_true rfl) (Nat.le_of_ble_eq_true rfl) ⟨rfl, q_hpe (q_pdw [] rfl rfl) (q_pdw [] rfl rfl)⟩
    | 4, ht9 =>
      have hx9 : (q_sw j1) = 11 := hx9
      cases ht9
      have hf := q_in (fun hz9 => absurd (hx9.symm.trans hz9) (by decide)) hf
      have hf := q_in (fun hz9 => absurd (hx9.symm.trans hz9) (by decide)) hf
      have hf := q_in (fun hz9 => absurd (hx9.symm.trans hz9) (by decide)) hf
      have hf := q_in (fun hz9 => absurd (hx9.symm.trans hz9) (by decide)) hf
      have hf := q_ip hx9 hf
      refine q_blk 2 [] (c' := q_kc (t, r, m, z, N, ext, rx, L) I E 12 [some (.ref 457), some (.ref x1), some (.int x2)] [.int ((I 457) 8)] [] []) ok_X8_value rfl q_cn ?_
      cases hf
      exact q_kri ok_X8_value rfl rfl rfl (Nat.le_of_ble_eq_true rfl) (Nat.le_of_ble_eq_true rfl) ⟨rfl, q_hpe (q_pdw [] rfl rfl) (q_pdw [] rfl rfl)⟩
    | 5, ht9 =>
      have hx9 : (q_sw j1) = 12 := hx9
      cases ht9
      have hf := q_in (fun hz9 => absurd (hx9.symm.trans hz9) (by decide)) hf
      have hf := q_in (fun hz9 => absurd (hx9.symm.trans hz9) (by decide)) hf
      have hf := q_in (fun hz9 => absurd (hx9.symm.trans hz9) (by decide)) hf
      have hf := q_in (fun hz9 => absurd (hx9.symm.trans hz9) (by decide)) hf
      have hf := q_in (fun hz9 => absurd (hx9.symm.trans hz9) (by decide)) hf
      have hf := q_ip hx9 hf
      refine q_blk 1 [] (c' := q_kc (t, r, m, z, N, ext, rx, L) I E 14 [some (.ref 457), some (.ref x1), some (.int x2)] [.ref 457] [] []) ok_X8_value rfl q_cn ?_
      obtain ⟨r8, hr8, hf⟩ := q_bd hf
      refine q_kV (M2 := m_X2_freePlaces) (As := []) (b := 457) (v2 := some (.int r8)) ok_X8_value ok_X2_freePlaces cv_X2_freePlaces (ct_X2_freePlaces_457 (d := 1) (Nat.le_refl _) hr8) rfl rfl (Or.inl rfl) rfl rfl rfl rfl (Nat.le_trans (Nat.le_of_ble_eq_true rfl) hd) (Nat.le_of_ble_eq_true rfl) (Nat.le_of_ble_eq_true rfl) (Nat.le_of_ble_eq_true rfl) (fun x hx => absurd hx List.not_mem_nil) (q_nmL0 _) (q_nmS0 _) rfl (pos' := 15) (st' := [.int r8]) (lI' := []) (lE' := []) rfl rfl rfl rfl ?_
      cases hf
      exact q_kri ok_X8_value rfl rfl rfl (Nat.le_of_ble_eq_true rfl) (Nat.le_of_ble_eq_true rfl) ⟨rfl, q_hpe (q_pdw [] rfl rfl) (q_pdw [] rfl rfl)⟩
    | 6, ht9 =>
      have hx9 : (q_sw j1) = 13 := hx9
      cases ht9
      have hf := q_in (fun hz9 => absurd (hx9.symm.trans hz9) (by decide)) hf
      have hf := q_in (fun hz9 => absurd (hx9.symm.trans hz9) (by decide)) hf
      have hf := q_in (fun hz9 => absurd (hx9.symm.trans hz9) (by decide)) hf
      have hf := q_in (fun hz9 => absurd (hx9.symm.trans hz9) (by decide)) hf
      have hf := q_in (fun hz9 => absurd (hx9.symm.trans hz9) (by decide)) hf
      have hf := q_in (fun hz9 => absurd (hx9.symm.trans hz9) (by decide)) hf
      have hf := q_ip hx9 hf
      refine q_blk 2 [] (c' := q_kc (t, r, m, z, N, ext, rx, L) I E 18 [some (.ref 457), some (.ref x1), some (.int x2)] [.int ((I 457) 12)] [] []) ok_X8_value rfl q_cn ?_
      cases hf
      exact q_kri ok_X8_value rfl rfl rfl (Nat.le_of_ble_eq_true rfl) (Nat.le_of_ble_eq_true rfl) ⟨rfl, q_hpe (q_pdw [] rfl rfl) (q_pdw [] rfl rfl)⟩
    | 7, ht9 =>
      have hx9 : (q_sw j1) = 14 := hx9
      cases ht9
      have hf := q_in (fun hz9 => absurd (hx9.symm.trans hz9) (by decide)) hf
      have hf := q_in (fun hz9 => absurd (hx9.symm.trans hz9) (by decide)) hf
      have hf := q_in (fun hz9 => absurd (hx9.symm.trans hz9) (by decide)) hf
      have hf := q_in (fun hz9 => absurd (hx9.symm.trans hz9) (by decide)) hf
      have hf := q_in (fun hz9 => absurd (hx9.symm.trans hz9) (by decide)) hf
      have hf := q_in (fun hz9 => absurd (hx9.symm.trans hz9) (by decide)) hf
      have hf := q_in (fun hz9 => absurd (hx9.symm.trans hz9) (by decide)) hf
      have hf := q_ip hx9 hf
      refine q_blk 1 [] (c' := q_kc (t, r, m, z, N, ext, rx, L) I E 20 [some (.ref 457), some (.ref x1), some (.int x2)] [.ref 457] [] []) ok_X8_value rfl q_cn ?_
      obtain ⟨r9, hr9, hf⟩ := q_bd hf
      refine q_kV (M2 := m_X2_baleCount) (As := []) (b := 457) (v2 := some (.int r9)) ok_X8_value ok_X2_baleCount cv_X2_baleCount (ct_X2_baleCount_457 (d := 1) (Nat.le_refl _) hr9) rfl rfl (Or.inl rfl) rfl rfl rfl rfl (Nat.le_trans (Nat.le_of_ble_eq_true rfl) hd) (Nat.le_of_ble_eq_true rfl) (Nat.le_of_ble_eq_true rfl) (Nat.le_of_ble_eq_true rfl) (fun x hx => absurd hx List.not_mem_nil) (q_nmL0 _) (q_nmS0 _) rfl (pos' := 21) (st' := [.int r9]) (lI' := []) (lE' := []) rfl rfl rfl rfl ?_
      cases hf
      exact q_kri ok_X8_value rfl rfl rfl (Nat.le_of_ble_eq_true rfl) (Nat.le_of_ble_eq_true rfl) ⟨rfl, q_hpe (q_pdw [] rfl rfl) (q_pdw [] rfl rfl)⟩
    | 8, ht9 =>
      have hx9 : (q_sw j1) = 15 := hx9
      cases ht9
      have hf := q_in (fun hz9 => absurd (hx9.symm.trans hz9) (by decide)) hf
      have hf := q_in (fun hz9 => absurd (hx9.symm.trans hz9) (by decide)) hf
      have hf := q_in (fun hz9 => absurd (hx9.symm.trans hz9) (by decide)) hf
      have hf := q_in (fun hz9 => absurd (hx9.symm.trans hz9) (by decide)) hf
      have hf := q_in (fun hz9 => absurd (hx9.symm.trans hz9) (by decide)) hf
      have hf := q_in (fun hz9 => absurd (hx9.symm.trans hz9) (by decide)) hf
      have hf := q_in (fun hz9 => absurd (hx9.symm.trans hz9) (by decide)) hf
      have hf := q_in (fun hz9 => absurd (hx9.symm.trans hz9) (by decide)) hf
      have hf := q_ip hx9 hf
      refine q_blk 4 [] (c' := q_kc (t, r, m, z, N, ext, rx, L) I E 26 [some (.ref 457), some (.ref x1), some (.int x2)] [.int x2, .ref 457, .ref 458] [] []) ok_X8_value rfl q_cn ?_
      obtain ⟨r10, hr10, hf⟩ := q_bd hf
      refine q_kV (M2 := m_X2_held) (As := [.int x2]) (b := 457) (v2 := some (.int r10)) ok_X8_value ok_X2_held cv_X2_held (ct_X2_held_457 (d := 1) (Nat.le_refl _) hr10) rfl rfl (Or.inl rfl) rfl rfl rfl rfl (Nat.le_trans (Nat.le_of_ble_eq_true rfl) hd) (Nat.le_of_ble_eq_true rfl) (Nat.le_of_ble_eq_true rfl) (Nat.le_of_ble_eq_true rfl) (fun x hx => absurd hx List.not_mem_nil) (q_nmL0 _) (q_nmS0 _) rfl (pos' := 27) (st' := [.int r10, .ref 458]) (lI' := []) (lE' := []) rfl rfl rfl rfl ?_
      obtain ⟨r11, hr11, hf⟩ := q_bd hf
      refine q_kV (M2 := m_X1_size) (As := [.int r10]) (b := 458) (v2 := some (.int r11)) ok_X8_value ok_X1_size cv_X1_size (ct_X1_size_458 (d := 1) (Nat.le_refl _) hr11) rfl rfl (Or.inl rfl) rfl rfl rfl rfl (Nat.le_trans (Nat.le_of_ble_eq_true rfl) hd) (Nat.le_of_ble_eq_true rfl) (Nat.le_of_ble_eq_true rfl) (Nat.le_of_ble_eq_true rfl) (fun x hx => absurd hx List.not_mem_nil) (q_nmL0 _) (q_nmS0 _) rfl (pos' := 28) (st' := [.int r11]) (lI' := []) (lE' := []) rfl rfl rfl rfl ?_
      cases hf
      exact q_kri ok_X8_value rfl rfl rfl (Nat.le_of_ble_eq_true rfl) (Nat.le_of_ble_eq_true rfl) ⟨rfl, q_hpe (q_pdw [] rfl rfl) (q_pdw [] rfl rfl)⟩
    | 9, ht9 =>
      have hx9 : (q_sw j1) = 16 := hx9
      cases ht9
      have hf := q_in (fun hz9 => absurd (hx9.symm.trans hz9) (by decide)) hf
      have hf := q_in (fun hz9 => absurd (hx9.symm.trans hz9) (by decide)) hf
      have hf := q_in (fun hz9 => absurd (hx9.symm.trans hz9) (by decide)) hf
      have hf := q_in (fun hz9 => absurd (hx9.symm.trans hz9) (by decide)) hf
      have hf := q_in (fun hz9 => absurd (hx9.symm.trans hz9) (by decide)) hf
      have hf := q_in (fun hz9 => absurd (hx9.symm.trans hz9) (by decide)) hf
      have hf := q_in (fun hz9 => absurd (hx9.symm.trans hz9) (by decide)) hf
      have hf := q_in (fun hz9 => absurd (hx9.symm.trans hz9) (by decide)) hf
      have hf := q_in (fun hz9 => absurd (hx9.symm.trans hz9) (by decide)) hf
      have hf := q_ip hx9 hf
      refine q_blk 4 [] (c' := q_kc (t, r, m, z, N, ext, rx, L) I E 33 [some (.ref 457), some (.ref x1), some (.int x2)] [.int x2, .ref 457, .ref 458] [] []) ok_X8_value rfl q_cn ?_
      obtain ⟨r12, hr12, hf⟩ := q_bd hf
      refine q_kV (M2 := m_X2_held) (As := [.int x2]) (b := 457) (v2 := some (.int r12)) ok_X8_value ok_X2_held cv_X2_held (ct_X2_held_457 (d := 1) (Nat.le_refl _) hr12) rfl rfl (Or.inl rfl) rfl rfl rfl rfl (Nat.le_trans (Nat.le_of_ble_eq_true rfl) hd) (Nat.le_of_ble_eq_true rfl) (Nat.le_of_ble_eq_true rfl) (Nat.le_of_ble_eq_true rfl) (fun x hx => absurd hx List.not_mem_nil) (q_nmL0 _) (q_nmS0 _) rfl (pos' := 34) (st' := [.int r12, .ref 458]) (lI' := []) (lE' := []) rfl rfl rfl rfl ?_
      obtain ⟨r13, hr13, hf⟩ := q_bd hf
      refine q_kV (M2 := m_X1_age) (As := [.int r12]) (b := 458) (v2 := some (.int r13)) ok_X8_value ok_X1_age cv_X1_age (ct_X1_age_458 (d := 1) (Nat.le_refl _) hr13) rfl rfl (Or.inl rfl) rfl rfl rfl rfl (Nat.le_trans (Nat.le_of_ble_eq_true rfl) hd) (Nat.le_of_ble_eq_true rfl) (Nat.le_of_ble_eq_true rfl) (Nat.le_of_ble_eq_true rfl) (fun x hx => absurd hx List.not_mem_nil) (q_nmL0 _) (q_nmS0 _) rfl (pos' := 35) (st' := [.int r13]) (lI' := []) (lE' := []) rfl rfl rfl rfl ?_
      cases hf
      exact q_kri ok_X8_value rfl rfl rfl (Nat.le_of_ble_eq_true rfl) (Nat.le_of_ble_eq_true rfl) ⟨rfl, q_hpe (q_pdw [] rfl rfl) (q_pdw [] rfl rfl)⟩
    | z9 + 10, ht9 => cases ht9
  · have hf := q_in (hx9 0 (by decide)) hf
    have hf := q_in (hx9 1 (by decide)) hf
    have hf := q_in (hx9 2 (by decide)) hf
    have hf := q_in (hx9 3 (by decide)) hf
    have hf := q_in (hx9 4 (by decide)) hf
    have hf := q_in (hx9 5 (by decide)) hf
    have hf := q_in (hx9 6 (by decide)) hf
    have hf := q_in (hx9 7 (by decide)) hf
    have hf := q_in (hx9 8 (by decide)) hf
    have hf := q_in (hx9 9 (by decide)) hf
    refine q_blk 3 [] (c' := q_kc (t, r, m, z, N, ext, rx, L) I E 49 [some (.ref 457), some (.ref x1), some (.int x2)] [.int (6 : Int32), .int x2, .ref 457] [] []) ok_X8_value rfl q_cn ?_
    refine q_kdv (pos' := 50) ok_X8_value rfl (by decide) rfl ?_
    refine q_blk 2 [] (c' := q_kc (t, r, m, z, N, ext, rx, L) I E 52 [some (.ref 457), some (.ref x1), some (.int x2)] [.int (6 : Int32), .int x2, .int (x2 / (6 : Int32)), .ref 457] [] []) ok_X8_value rfl q_cn ?_
    refine q_krm (pos' := 53) ok_X8_value rfl (by decide) rfl ?_
    obtain ⟨r14, hr14, hf⟩ := q_bd hf
    refine q_kV (M2 := m_X2_sameHeld) (As := [.int (x2 / (6 : Int32)), .int (x2 - x2 / (6 : Int32) * (6 : Int32))]) (b := 457) (v2 := some (.int (q_bz r14))) ok_X8_value ok_X2_sameHeld cv_X2_sameHeld (ct_X2_sameHeld_457 (d := 1) (Nat.le_refl _) hr14) rfl rfl (Or.inl rfl) rfl rfl rfl rfl (Nat.le_trans (Nat.le_of_ble_eq_true rfl) hd) (Nat.le_of_ble_eq_true rfl) (Nat.le_of_ble_eq_true rfl) (Nat.le_of_ble_eq_true rfl) (fun x hx => absurd hx List.not_mem_nil) (q_nmL0 _) (q_nmS0 _) rfl (pos' := 54) (st' := [.int (q_bz r14)]) (lI' := []) (lE' := []) rfl rfl rfl rfl ?_
    obtain ⟨r15, hr15, hf⟩ := q_bd hf
    refine q_kS (M2 := m_X8_one) (As := [.int (q_bz r14)]) (v2 := some (.int r15)) ok_X8_value ok_X8_one cs_X8_one (ct_X8_one (d := 1) (Nat.le_refl _) hr15) rfl rfl (Or.inl rfl) (Nat.le_trans (Nat.le_of_ble_eq_true rfl) hd) (Nat.le_of_ble_eq_true rfl) (Nat.le_of_ble_eq_true rfl) (Nat.le_of_ble_eq_true rfl) (fun x hx => absurd hx List.not_mem_nil) (q_nmL0 _) (q_nmS0 _) rfl (pos' := 55) (st' := [.int r15]) (lI' := []) (lE' := []) rfl rfl rfl rfl ?_
    cases hf
    exact q_kri ok_X8_value rfl rfl rfl (Nat.le_of_ble_eq_true rfl) (Nat.le_of_ble_eq_true rfl) ⟨rfl, q_hpe (q_pdw [] rfl rfl) (q_pdw [] rfl rfl)⟩
