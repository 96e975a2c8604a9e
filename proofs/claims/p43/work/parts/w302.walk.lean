set_option maxHeartbeats 4000000 in
theorem ct_X12_isInLoft_400 {g : q_G} {t : Nat} {r : Nat} {m : Nat} {z : Nat} {N : Nat} {ext : Nat → q_Sh} {rx : Nat → Nat → Option Nat} {L : Nat → Nat → Int64} {d : Nat} (hd : 8 ≤ d)  {I : Nat → Nat → Int32} {E : Nat → Nat → Option Nat} {x1 : Int32} {r0 : (Bool ⊕ String)} (hf : f_X12_isInLoft (I 402) (I 459) (I 470) x1 = some r0) : q_Ct g m_X12_isInLoft d 2 12 [] [.ref 400, .int x1] (q_hp (t, r, m, z, N, ext, rx, L) I E) (fun o h' => o = q_oZ r0 ∧ h' = q_hp (t, r, m, z, N, ext, rx, L) (q_ws I []) (q_ws E [])) := by
  rw [f_X12_isInLoft] at hf
  refine q_Ct_of ok_X12_isInLoft (Nat.le_of_ble_eq_true rfl) ?_ _ rfl rfl
  change q_J g m_X12_isInLoft d 2 12 _ [] _ 0 0 (q_kc (t, r, m, z, N, ext, rx, L) I E 0 [some (.ref 400), some (.int x1)] [] [] [])
  refine q_blk 5 [] (c' := q_kc (t, r, m, z, N, ext, rx, L) I E 5 [some (.ref 400), some (.int x1)] [.int x1, .ref 400, .ref 458] [] []) ok_X12_isInLoft rfl q_cn ?_
  obtain ⟨r1, hr1, hf⟩ := q_bd hf
  cases hv4 : r1 with
  | inl v2 =>
    have hf := q_sm0 hv4 hf
    refine q_kV (M2 := m_X12_heldBale) (As := [.int x1]) (b := 400) (v2 := some (.int v2)) ok_X12_isInLoft ok_X12_heldBale cv_X12_heldBale (ct_X12_heldBale_400 (d := 7) (Nat.le_refl _) hr1) (q_oIl hv4) rfl (Or.inl rfl) rfl rfl rfl rfl (Nat.le_trans (Nat.le_of_ble_eq_true rfl) hd) (Nat.le_of_ble_eq_true rfl) (Nat.le_of_ble_eq_true rfl) (Nat.le_of_ble_eq_true rfl) (fun x hx => absurd hx List.not_mem_nil) (q_nmL0 _) (q_nmS0 _) rfl (pos' := 6) (st' := [.int v2, .ref 458]) (lI' := []) (lE' := []) rfl rfl rfl rfl ?_
    obtain ⟨r5, hr5, hf⟩ := q_bd hf
    refine q_kV (M2 := m_X1_liesInLoft) (As := [.int v2]) (b := 458) (v2 := some (.int (q_bz r5))) ok_X12_isInLoft ok_X1_liesInLoft cv_X1_liesInLoft (ct_X1_liesInLoft_458 (d := 1) (Nat.le_refl _) hr5) rfl rfl (Or.inl rfl) rfl rfl rfl rfl (Nat.le_trans (Nat.le_of_ble_eq_true rfl) hd) (Nat.le_of_ble_eq_true rfl) (Nat.le_of_ble_eq_true rfl) (Nat.le_of_ble_eq_true rfl) (fun x hx => absurd hx List.not_mem_nil) (q_nmL0 _) (q_nmS0 _) rfl (pos' := 7) (st' := [.int (q_bz r5)]) (lI' := []) (lE' := []) rfl rfl rfl rfl ?_
    cases hf
    exact q_kri ok_X12_isInLoft rfl rfl (q_bz_nr _) (Nat.le_of_ble_eq_true rfl) (Nat.le_of_ble_eq_true rfl) ⟨rfl, q_hpe (q_pdw [] rfl rfl) (q_pdw [] rfl rfl)⟩
  | inr e3 =>
    have hf := q_sm1 hv4 hf
    cases hf
    refine q_kVx (M2 := m_X12_heldBale) (As := [.int x1]) (b := 400) ok_X12_isInLoft ok_X12_heldBale cv_X12_heldBale (ct_X12_heldBale_400 (d := 7) (Nat.le_refl _) hr1) (q_oIr hv4) rfl (Or.inl rfl) rfl rfl rfl rfl (Nat.le_trans (Nat.le_of_ble_eq_true rfl) hd) (Nat.le_of_ble_eq_true rfl) (Nat.le_of_ble_eq_true rfl) (Nat.le_of_ble_eq_true rfl) (fun x hx => absurd hx List.not_mem_nil) (q_nmL0 _) (q_nmS0 _) rfl (lI' := []) (lE' := []) rfl rfl ⟨rfl, q_hpe (q_pdw [] rfl rfl) (q_pdw [] rfl rfl)⟩
set_option maxHeartbeats 4000000 in
theorem ct_X12_ropeLeads_400 {g : q_G} {t : Nat} {r : Nat} {m : Nat} {z : Nat} {N : Nat} {ext : Nat → q_Sh} {rx : Nat → Nat → Option Nat} {L : Nat → Nat → Int64} {d : Nat} (hd : 8 ≤ d)  {I : Nat → Nat → Int32} {E : Nat → Nat → Option Nat} {x1 : Int32} {x2 : Int32} {r0 : (Bool ⊕ String)} (hf : f_X12_ropeLeads (I 402) (I 463) (I 464) (I 470) x1 x2 = some r0) : q_Ct g m_X12_ropeLeads d 3 18 [] [.ref 400, .int x1, .int x2] (q_hp (t, r, m, z, N, ext, rx, L) I E) (fun o h' => o = q_oZ r0 ∧ h' = q_hp (t, r, m, z, N, ext, rx, L) (q_ws I []) (q_ws E [])) := by
  rw [f_X12_ropeLeads] at hf
  refine q_Ct_of ok_X12_ropeLeads (Nat.le_of_ble_eq_true rfl) ?_ _ rfl rfl
  change q_J g m_X12_ropeLeads d 3 18 _ [] _ 0 0 (q_kc (t, r, m, z, N, ext, rx, L) I E 0 [some (.ref 400), some (.int x1), some (.int x2), none] [] [] [])
  refine q_blk 2 [] (c' := q_kc (t, r, m, z, N, ext, rx, L) I E 2 [some (.ref 400), some (.int x1), some (.int x2), none] [.int x1, .ref 400] [] []) ok_X12_ropeLeads rfl q_cn ?_
  obtain ⟨r1, hr1, hf⟩ := q_bd hf
  cases hv4 : r1 with
  | inl v2 =>
    have hf := q_sm0 hv4 hf
    refine q_kV (M2 := m_X12_heldBale) (As := [.int x1]) (b := 400) (v2 := some (.int v2)) ok_X12_ropeLeads ok_X12_heldBale cv_X12_heldBale (ct_X12_heldBale_400 (d := 7) (Nat.le_refl _) hr1) (q_oIl hv4) rfl (Or.inl rfl) rfl rfl rfl rfl (Nat.le_trans (Nat.le_of_ble_eq_true rfl) hd) (Nat.le_of_ble_eq_true rfl) (Nat.le_of_ble_eq_true rfl) (Nat.le_of_ble_eq_true rfl) (fun x hx => absurd hx List.not_mem_nil) (q_nmL0 _) (q_nmS0 _) rfl (pos' := 3) (st' := [.int v2]) (lI' := []) (lE' := []) rfl rfl rfl rfl ?_
    refine q_blk 6 [] (c' := q_kc (t, r, m, z, N, ext, rx, L) I E 9 [some (.ref 400), some (.int x1), some (.int x2), some (.int v2)] [.int x2, .int v2, .ref 458] [] []) ok_X12_ropeLeads rfl q_cn ?_
    obtain ⟨r5, hr5, hf⟩ := q_bd hf
    refine q_kV (M2 := m_X1_hasRope) (As := [.int v2, .int x2]) (b := 458) (v2 := some (.int (q_bz r5))) ok_X12_ropeLeads ok_X1_hasRope cv_X1_hasRope (ct_X1_hasRope_458 (d := 1) (Nat.le_refl _) hr5) rfl rfl (Or.inl rfl) rfl rfl rfl rfl (Nat.le_trans (Nat.le_of_ble_eq_true rfl) hd) (Nat.le_of_ble_eq_true rfl) (Nat.le_of_ble_eq_true rfl) (Nat.le_of_ble_eq_true rfl) (fun x hx => absurd hx List.not_mem_nil) (q_nmL0 _) (q_nmS0 _) rfl (pos' := 10) (st' := [.int (q_bz r5)]) (lI' := []) (lE' := []) rfl rfl rfl rfl ?_
    refine q_blf 0 [] (a := q_kc (t, r, m, z, N, ext, rx, L) I E 16 [some (.ref 400), some (.int x1), some (.int x2), some (.int v2)] [] [] []) (b := q_kc (t, r, m, z, N, ext, rx, L) I E 11 [some (.ref 400), some (.int x1), some (.int x2), some (.int v2)] [] [] []) (P := ¬ (q_bz r5) = 0) ok_X12_ropeLeads rfl q_cn (fun h6 => ?_) (fun h6 => ?_)
    · have hf := q_ip h6 hf
      refine q_blk 5 [] (c' := q_kc (t, r, m, z, N, ext, rx, L) I E 21 [some (.ref 400), some (.int x1), some (.int x2), some (.int v2)] [.int x2, .int v2, .ref 458] [] []) ok_X12_ropeLeads rfl q_cn ?_
      obtain ⟨r7, hr7, hf⟩ := q_bd hf
      refine q_kV (M2 := m_X1_lead) (As := [.int v2, .int x2]) (b := 458) (v2 := some (.int r7)) ok_X12_ropeLeads ok_X1_lead cv_X1_lead (ct_X1_lead_458 (d := 2) (Nat.le_refl _) hr7) rfl rfl (Or.inl rfl) rfl rfl rfl rfl (Nat.le_trans (Nat.le_of_ble_eq_true rfl) hd) (Nat.le_of_ble_eq_true rfl) (Nat.le_of_ble_eq_true rfl) (Nat.le_of_ble_eq_true rfl) (fun x hx => absurd hx List.not_mem_nil) (q_nmL0 _) (q_nmS0 _) rfl (pos' := 22) (st' := [.int r7]) (lI' := []) (lE' := []) rfl rfl rfl rfl ?_
      refine q_blf 1 [] (a := q_kc (t, r, m, z, N, ext, rx, L) I E 26 [some (.ref 400), some (.int x1), some (.int x2), some (.int v2)] [] [] []) (b := q_kc (t, r, m, z, N, ext, rx, L) I E 24 [some (.ref 400), some (.int x1), some (.int x2), some (.int v2)] [] [] []) (P := r7 = (-1 : Int32)) ok_X12_ropeLeads rfl q_cn (fun h8 => ?_) (fun h8 => ?_)
      · have hf := q_ip h8 hf
        refine q_blk 1 [] (c' := q_kc (t, r, m, z, N, ext, rx, L) I E 27 [some (.ref 400), some (.int x1), some (.int x2), some (.int v2)] [.int (0 : Int32)] [] []) ok_X12_ropeLeads rfl q_cn ?_
        cases hf
        exact q_kri ok_X12_ropeLeads rfl rfl rfl (Nat.le_of_ble_eq_true rfl) (Nat.le_of_ble_eq_true rfl) ⟨rfl, q_hpe (q_pdw [] rfl rfl) (q_pdw [] rfl rfl)⟩
      · have hf := q_in h8 hf
        refine q_blk 2 [] (c' := q_kc (t, r, m, z, N, ext, rx, L) I E 27 [some (.ref 400), some (.int x1), some (.int x2), some (.int v2)] [.int (1 : Int32)] [] []) ok_X12_ropeLeads rfl q_cn ?_
        cases hf
        exact q_kri ok_X12_ropeLeads rfl rfl rfl (Nat.le_of_ble_eq_true rfl) (Nat.le_of_ble_eq_true rfl) ⟨rfl, q_hpe (q_pdw [] rfl rfl) (q_pdw [] rfl rfl)⟩
    · have hf := q_in h6 hf
      cases hf
      exact q_o_throwS ok_X12_ropeLeads rfl rfl rfl rfl rfl rfl q_inISE msg_4 thr_0 q_fitISE q_fits (Nat.le_trans (Nat.le_of_ble_eq_true rfl) hd) (Nat.le_of_ble_eq_true rfl) (Nat.le_of_ble_eq_true rfl) (Nat.le_of_ble_eq_true rfl) ⟨rfl, q_hpe (q_pdw [] rfl rfl) (q_pdw [] rfl rfl)⟩
  | inr e3 =>
    have hf := q_sm1 hv4 hf
    cases hf
    refine q_kVx (M2 := m_X12_heldBale) (As := [.int x1]) (b := 400) ok_X12_ropeLeads ok_X12_heldBale cv_X12_heldBale (ct_X12_heldBale_400 (d := 7) (Nat.le_refl _) hr1) (q_oIr hv4) rfl (Or.inl rfl) rfl rfl rfl rfl (Nat.le_trans (Nat.le_of_ble_eq_true rfl) hd) (Nat.le_of_ble_eq_true rfl) (Nat.le_of_ble_eq_true rfl) (Nat.le_of_ble_eq_true rfl) (fun x hx => absurd hx List.not_mem_nil) (q_nmL0 _) (q_nmS0 _) rfl (lI' := []) (lE' := []) rfl rfl ⟨rfl, q_hpe (q_pdw [] rfl rfl) (q_pdw [] rfl rfl)⟩
set_option maxHeartbeats 4000000 in
theorem ct_X2_sameHeld_457 {g : q_G} {t : Nat} {r : Nat} {m : Nat} {z : Nat} {N : Nat} {ext : Nat → q_Sh} {rx : Nat → Nat → Option Nat} {L : Nat → Nat → Int64} {d : Nat} (hd : 1 ≤ d)  {I : Nat → Nat → Int32} {E : Nat → Nat → Option Nat} {x1 : Int32} {x2 : Int32} {r0 : Bool} (hf : f_X2_sameHeld (I 470) x1 x2 = some r0) : q_Ct g m_X2_sameHeld d 0 0 [] [.ref 457, .int x1, .int x2] (q_hp (t, r, m, z, N, ext, rx, L) I E) (fun o h' => o = .inl (some (.int (q_bz r0))) ∧ h' = q_hp (t, r, m, z, N, ext, rx, L) (q_ws I []) (q_ws E [])) := by
  rw [f_X2_sameHeld] at hf
  refine q_Ct_of ok_X2_sameHeld (Nat.le_of_ble_eq_true rfl) ?_ _ rfl rfl
  change q_J g m_X2_sameHeld d 0 0 _ [] _ 0 0 (q_kc (t, r, m, z, N, ext, rx, L) I E 0 [some (.ref 457), some (.int x1), some (.int x2)] [] [] [])
  refine q_blf 1 [] (a := q_kc (t, r, m, z, N, ext, rx, L) I E 27 [some (.ref 457), some (.int x1), some (.int x2)] [] [] []) (b := q_kc (t, r, m, z, N, ext, rx, L) I E 2 [some (.ref 457), some (.int x1), some (.int x2)] [] [] []) (P := x1 < 0) ok_X2_sameHeld rfl q_cn (fun h1 => ?_) (fun h1 => ?_)
  · have hf := q_ip h1 hf
    refine q_blk 1 [] (c' := q_kc (t, r, m, z, N, ext, rx, L) I E 28 [some (.ref 457), some (.int x1), some (.int x2)] [.int (0 : Int32)] [] []) ok_X2_sameHeld rfl q_cn ?_
    cases hf
    exact q_kri ok_X2_sameHeld rfl rfl rfl (Nat.le_of_ble_eq_true rfl) (Nat.le_of_ble_eq_true rfl) ⟨rfl, q_hpe (q_pdw [] rfl rfl) (q_pdw [] rfl rfl)⟩
  · have hf := q_in h1 hf
    refine q_blf 2 [] (a := q_kc (t, r, m, z, N, ext, rx, L) I E 27 [some (.ref 457), some (.int x1), some (.int x2)] [] [] []) (b := q_kc (t, r, m, z, N, ext, rx, L) I E 5 [some (.ref 457), some (.int x1), some (.int x2)] [] [] []) (P := (6 : Int32) ≤ x1) ok_X2_sameHeld rfl q_cn (fun h2 => ?_) (fun h2 => ?_)
    · have hf := q_ip h2 hf
      refine q_blk 1 [] (c' := q_kc (t, r, m, z, N, ext, rx, L) I E 28 [some (.ref 457), some (.int x1), some (.int x2)] [.int (0 : Int32)] [] []) ok_X2_sameHeld rfl q_cn ?_
      cases hf
      exact q_kri ok_X2_sameHeld rfl rfl rfl (Nat.le_of_ble_eq_true rfl) (Nat.le_of_ble_eq_true rfl) ⟨rfl, q_hpe (q_pdw [] rfl rfl) (q_pdw [] rfl rfl)⟩
    · have hf := q_in h2 hf
      refine q_blf 1 [] (a := q_kc (t, r, m, z, N, ext, rx, L) I E 27 [some (.ref 457), some (.int x1), some (.int x2)] [] [] []) (b := q_kc (t, r, m, z, N, ext, rx, L) I E 7 [some (.ref 457), some (.int x1), some (.int x2)] [] [] []) (P := x2 < 0) ok_X2_sameHeld rfl q_cn (fun h3 => ?_) (fun h3 => ?_)
      · have hf := q_ip h3 hf
        refine q_blk 1 [] (c' := q_kc (t, r, m, z, N, ext, rx, L) I E 28 [some (.ref 457), some (.int x1), some (.int x2)] [.int (0 : Int32)] [] []) ok_X2_sameHeld rfl q_cn ?_
        cases hf
        exact q_kri ok_X2_sameHeld rfl rfl rfl (Nat.le_of_ble_eq_true rfl) (Nat.le_of_ble_eq_true rfl) ⟨rfl, q_hpe (q_pdw [] rfl rfl) (q_pdw [] rfl rfl)⟩
      · have hf := q_in h3 hf
        refine q_blf 2 [] (a := q_kc (t, r, m, z, N, ext, rx, L) I E 27 [some (.ref 457), some (.int x1), some (.int x2)] [] [] []) (b := q_kc (t, r, m, z, N, ext, rx, L) I E 10 [some (.ref 457), some (.int x1), some (.int x2)] [] [] []) (P := (6 : Int32) ≤ x2) ok_X2_sameHeld rfl q_cn (fun h4 => ?_) (fun h4 => ?_)
        · have hf := q_ip h4 hf
          refine q_blk 1 [] (c' := q_kc (t, r, m, z, N, ext, rx, L) I E 28 [some (.ref 457), some (.int x1), some (.int x2)] [.int (0 : Int32)] [] []) ok_X2_sameHeld rfl q_cn ?_
          cases hf
          exact q_kri ok_X2_sameHeld rfl rfl rfl (Nat.le_of_ble_eq_true rfl) (Nat.le_of_ble_eq_true rfl) ⟨rfl, q_hpe (q_pdw [] rfl rfl) (q_pdw [] rfl rfl)⟩
        · have hf := q_in h4 hf
          obtain ⟨j5, hj5, hf⟩ := q_bd hf
          refine q_blf 5 [j5] (a := q_kc (t, r, m, z, N, ext, rx, L) I E 27 [some (.ref 457), some (.int x1), some (.int x2)] [] [] []) (b := q_kc (t, r, m, z, N, ext, rx, L) I E 16 [some (.ref 457), some (.int x1), some (.int x2)] [] [] []) (P := ((I 470) j5) = (-1 : Int32)) ok_X2_sameHeld rfl (q_cc hj5 q_cn) (fun h6 => ?_) (fun h6 => ?_)
          · have hf := q_ip h6 hf
            refine q_blk 1 [] (c' := q_kc (t, r, m, z, N, ext, rx, L) I E 28 [some (.ref 457), some (.int x1), some (.int x2)] [.int (0 : Int32)] [] []) ok_X2_sameHeld rfl q_cn ?_
            cases hf
            exact q_kri ok_X2_sameHeld rfl rfl rfl (Nat.le_of_ble_eq_true rfl) (Nat.le_of_ble_eq_true rfl) ⟨rfl, q_hpe (q_pdw [] rfl rfl) (q_pdw [] rfl rfl)⟩
          · have hf := q_in h6 hf
            obtain ⟨j7, hj7, hf⟩ := q_bd hf
            obtain ⟨j8, hj8, hf⟩ := q_bd hf
            refine q_blf 8 [j7, j8] (a := q_kc (t, r, m, z, N, ext, rx, L) I E 27 [some (.ref 457), some (.int x1), some (.int x2)] [] [] []) (b := q_kc (t, r, m, z, N, ext, rx, L) I E 25 [some (.ref 457), some (.int x1), some (.int x2)] [] [] []) (P := ¬ ((I 470) j7) = ((I 470) j8)) ok_X2_sameHeld rfl (q_cc hj8 (q_cc hj7 q_cn)) (fun h9 => ?_) (fun h9 => ?_)
            · have hf := q_ip h9 hf
              refine q_blk 1 [] (c' := q_kc (t, r, m, z, N, ext, rx, L) I E 28 [some (.ref 457), some (.int x1), some (.int x2)] [.int (0 : Int32)] [] []) ok_X2_sameHeld rfl q_cn ?_
              cases hf
              exact q_kri ok_X2_sameHeld rfl rfl rfl (Nat.le_of_ble_eq_true rfl) (Nat.le_of_ble_eq_true rfl) ⟨rfl, q_hpe (q_pdw [] rfl rfl) (q_pdw [] rfl rfl)⟩
            · have hf := q_in h9 hf
              refine q_blk 2 [] (c' := q_kc (t, r, m, z, N, ext, rx, L) I E 28 [some (.ref 457), some (.int x1), some (.int x2)] [.int (1 : Int32)] [] []) ok_X2_sameHeld rfl q_cn ?_
              cases hf
              exact q_kri ok_X2_sameHeld rfl rfl rfl (Nat.le_of_ble_eq_true rfl) (Nat.le_of_ble_eq_true rfl) ⟨rfl, q_hpe (q_pdw [] rfl rfl) (q_pdw [] rfl rfl)⟩
set_option maxHeartbeats 4000000 in
theorem ct_X12_holdSame_400 {g : q_G} {t : Nat} {r : Nat} {m : Nat} {z : Nat} {N : Nat} {ext : Nat → q_Sh} {rx : Nat → Nat → Option Nat} {L : Nat → Nat → Int64} {d : Nat} (hd : 7 ≤ d)  {I : Nat → Nat → Int32} {E : Nat → Nat → Option Nat} {x1 : Int32} {x2 : Int32} {r0 : (Bool ⊕ String)} (hf : f_X12_holdSame (I 402) (I 470) x1 x2 = some r0) : q_Ct g m_X12_holdSame d 2 12 [] [.ref 400, .int x1, .int x2] (q_hp (t, r, m, z, N, ext, rx, L) I E) (fun o h' => o = q_oZ r0 ∧ h' = q_hp (t, r, m, z, N, ext, rx, L) (q_ws I []) (q_ws E [])) := by
  rw [f_X12_holdSame] at hf
  refine q_Ct_of ok_X12_holdSame (Nat.le_of_ble_eq_true rfl) ?_ _ rfl rfl
  change q_J g m_X12_holdSame d 2 12 _ [] _ 0 0 (q_kc (t, r, m, z, N, ext, rx, L) I E 0 [some (.ref 400), some (.int x1), some (.int x2)] [] [] [])
  refine q_blk 2 [] (c' := q_kc (t, r, m, z, N, ext, rx, L) I E 2 [some (.ref 400), some (.int x1), some (.int x2)] [.int x1, .ref 400] [] []) ok_X12_holdSame rfl q_cn ?_
  obtain ⟨r1, hr1, hf⟩ := q_bd hf
  cases hv4 : r1 with
  | inl v2 =>
    have hf := q_sm0 hv4 hf
    refine q_kV (M2 := m_X12_checkHook) (As := [.int x1]) (b := 400) (v2 := none) ok_X12_holdSame ok_X12_checkHook cv_X12_checkHook (ct_X12_checkHook_400 (d := 6) (Nat.le_refl _) hr1) (q_oVl hv4) rfl (Or.inl rfl) rfl rfl rfl rfl (Nat.le_trans (Nat.le_of_ble_eq_true rfl) hd) (Nat.le_of_ble_eq_true rfl) (Nat.le_of_ble_eq_true rfl) (Nat.le_of_ble_eq_true rfl) (fun x hx => absurd hx List.not_mem_nil) (q_nmL0 _) (q_nmS0 _) rfl (pos' := 3) (st' := []) (lI' := []) (lE' := []) rfl rfl rfl rfl ?_
    refine q_blk 2 [] (c' := q_kc (t, r, m, z, N, ext, rx, L) I E 5 [some (.ref 400), some (.int x1), some (.int x2)] [.int x2, .ref 400] [] []) ok_X12_holdSame rfl q_cn ?_
    obtain ⟨r5, hr5, hf⟩ := q_bd hf
    cases hv8 : r5 with
    | inl v6 =>
      have hf := q_sm0 hv8 hf
      refine q_kV (M2 := m_X12_checkHook) (As := [.int x2]) (b := 400) (v2 := none) ok_X12_holdSame ok_X12_checkHook cv_X12_checkHook (ct_X12_checkHook_400 (d := 6) (Nat.le_refl _) hr5) (q_oVl hv8) rfl (Or.inl rfl) rfl rfl rfl rfl (Nat.le_trans (Nat.le_of_ble_eq_true rfl) hd) (Nat.le_of_ble_eq_true rfl) (Nat.le_of_ble_eq_true rfl) (Nat.le_of_ble_eq_true rfl) (fun x hx => absurd hx List.not_mem_nil) (q_nmL0 _) (q_nmS0 _) rfl (pos' := 6) (st' := []) (lI' := []) (lE' := []) rfl rfl rfl rfl ?_
      refine q_blk 4 [] (c' := q_kc (t, r, m, z, N, ext, rx, L) I E 10 [some (.ref 400), some (.int x1), some (.int x2)] [.int x2, .int x1, .ref 457] [] []) ok_X12_holdSame rfl q_cn ?_
      obtain ⟨r9, hr9, hf⟩ := q_bd hf
      refine q_kV (M2 := m_X2_sameHeld) (As := [.int x1, .int x2]) (b := 457) (v2 := some (.int (q_bz r9))) ok_X12_holdSame ok_X2_sameHeld cv_X2_sameHeld (ct_X2_sameHeld_457 (d := 1) (Nat.le_refl _) hr9) rfl rfl (Or.inl rfl) rfl rfl rfl rfl (Nat.le_trans (Nat.le_of_ble_eq_true rfl) hd) (Nat.le_of_ble_eq_true rfl) (Nat.le_of_ble_eq_true rfl) (Nat.le_of_ble_eq_true rfl) (fun x hx => absurd hx List.not_mem_nil) (q_nmL0 _) (q_nmS0 _) rfl (pos' := 11) (st' := [.int (q_bz r9)]) (lI' := []) (lE' := []) rfl rfl rfl rfl ?_
      cases hf
      exact q_kri ok_X12_holdSame rfl rfl (q_bz_nr _) (Nat.le_of_ble_eq_true rfl) (Nat.le_of_ble_eq_true rfl) ⟨rfl, q_hpe (q_pdw [] rfl rfl) (q_pdw [] rfl rfl)⟩
    | inr e7 =>
      have hf := q_sm1 hv8 hf
      cases hf
      refine q_kVx (M2 := m_X12_checkHook) (As := [.int x2]) (b := 400) ok_X12_holdSame ok_X12_checkHook cv_X12_checkHook (ct_X12_checkHook_400 (d := 6) (Nat.le_refl _) hr5) (q_oVr hv8) rfl (Or.inl rfl) rfl rfl rfl rfl (Nat.le_trans (Nat.le_of_ble_eq_true rfl) hd) (Nat.le_of_ble_eq_true rfl) (Nat.le_of_ble_eq_true rfl) (Nat.le_of_ble_eq_true rfl) (fun x hx => absurd hx List.not_mem_nil) (q_nmL0 _) (q_nmS0 _) rfl (lI' := []) (lE' := []) rfl rfl ⟨rfl, q_hpe (q_pdw [] rfl rfl) (q_pdw [] rfl rfl)⟩
  | inr e3 =>
    have hf := q_sm1 hv4 hf
    cases hf
    refine q_kVx (M2 := m_X12_checkHook) (As := [.int x1]) (b := 400) ok_X12_holdSame ok_X12_checkHook cv_X12_checkHook (ct_X12_checkHook_400 (d := 6) (Nat.le_refl _) hr1) (q_oVr hv4) rfl (Or.inl rfl) rfl rfl rfl rfl (Nat.le_trans (Nat.le_of_ble_eq_true rfl) hd) (Nat.le_of_ble_eq_true rfl) (Nat.le_of_ble_eq_true rfl) (Nat.le_of_ble_eq_true rfl) (fun x hx => absurd hx List.not_mem_nil) (q_nmL0 _) (q_nmS0 _) rfl (lI' := []) (lE' := []) rfl rfl ⟨rfl, q_hpe (q_pdw [] rfl rfl) (q_pdw [] rfl rfl)⟩
set_option maxHeartbeats 4000000 in
theorem ct_X2_ropesAway_457 {g : q_G} {t : Nat} {r : Nat} {m : Nat} {z : Nat} {N : Nat} {ext : Nat → q_Sh} {rx : Nat → Nat → Option Nat} {L : Nat → Nat → Int64} {d : Nat} (hd : 4 ≤ d)  {I : Nat → Nat → Int32} {E : Nat → Nat → Option Nat} {x1 : Int32} {x2 : Int32} {r0 : Int32 × (Nat → Int32) × (Nat → Int32) × (Nat → Int32)} (hf : f_X2_ropesAway (I 463) (I 464) (I 467) (I 468) (I 469) x1 x2 = some r0) : q_Ct g m_X2_ropesAway d 0 0 [] [.ref 457, .int x1, .int x2] (q_hp (t, r, m, z, N, ext, rx, L) I E) (fun o h' => o = .inl (some (.int r0.1)) ∧ h' = q_hp (t, r, m, z, N, ext, rx, L) (q_ws I [(467, r0.2.1), (468, r0.2.2.1), (469, r0.2.2.2)]) (q_ws E [])) := by
  rw [f_X2_ropesAway] at hf
  refine q_Ct_of ok_X2_ropesAway (Nat.le_of_ble_eq_true rfl) ?_ _ rfl rfl
  change q_J g m_X2_ropesAway d 0 0 _ [] _ 0 0 (q_kc (t, r, m, z, N, ext, rx, L) I E 0 [some (.ref 457), some (.int x1), some (.int x2)] [] [] [])
  refine q_blk 2 [] (c' := q_kc (t, r, m, z, N, ext, rx, L) I E 2 [some (.ref 457), some (.int x1), some (.int x2)] [.ref 467] [] []) ok_X2_ropesAway rfl q_cn ?_
  obtain ⟨r1, hr1, hf⟩ := q_bd hf
  refine q_kV (M2 := m_X4_clear) (As := []) (b := 467) (v2 := none) ok_X2_ropesAway ok_X4_clear cv_X4_clear (ct_X4_clear_467 (d := 2) (Nat.le_refl _) hr1) rfl rfl (Or.inl rfl) rfl rfl rfl rfl (Nat.le_trans (Nat.le_of_ble_eq_true rfl) hd) (Nat.le_of_ble_eq_true rfl) (Nat.le_of_ble_eq_true rfl) (Nat.le_of_ble_eq_true rfl) (fun x hx => absurd hx List.not_mem_nil) (q_nmL0 _) (q_nmS0 _) rfl (pos' := 3) (st' := []) (lI' := [(467, r1.1), (469, r1.2)]) (lE' := []) rfl rfl (q_mgw rfl rfl) rfl ?_
  refine q_blk 4 [] (c' := q_kc (t, r, m, z, N, ext, rx, L) I E 7 [some (.ref 457), some (.int x1), some (.int x2)] [.int (0 : Int32), .int x1, .ref 467] [(467, r1.1), (469, r1.2)] []) ok_X2_ropesAway rfl q_cn ?_
  obtain ⟨r2, hr2, hf⟩ := q_bd hf
  refine q_kV (M2 := m_X4_add) (As := [.int x1, .int (0 : Int32)]) (b := 467) (v2 := some (.int (q_bz r2.1))) ok_X2_ropesAway ok_X4_add cv_X4_add (ct_X4_add_467 (d := 1) (Nat.le_refl _) hr2) rfl rfl (Or.inl rfl) rfl rfl rfl rfl (Nat.le_trans (Nat.le_of_ble_eq_true rfl) hd) (Nat.le_of_ble_eq_true rfl) (Nat.le_of_ble_eq_true rfl) (Nat.le_of_ble_eq_true rfl) (fun x hx => absurd hx List.not_mem_nil) (q_nmL0 _) (q_nmS0 _) rfl (pos' := 8) (st' := [.int (q_bz r2.1)]) (lI' := [(467, r2.2.1), (468, r2.2.2.1), (469, r2.2.2.2)]) (lE' := []) rfl rfl (q_mgw rfl rfl) rfl ?_
  refine q_blk 2 [] (c' := q_kc (t, r, m, z, N, ext, rx, L) I E 10 [some (.ref 457), some (.int x1), some (.int x2)] [.ref 457] [(467, r2.2.1), (468, r2.2.2.1), (469, r2.2.2.2)] []) ok_X2_ropesAway rfl q_cn ?_
  obtain ⟨r3, hr3, hf⟩ := q_bd hf
  refine q_kV (M2 := m_X2_followLine) (As := []) (b := 457) (v2 := none) ok_X2_ropesAway ok_X2_followLine cv_X2_followLine (ct_X2_followLine_457 (d := 3) (Nat.le_refl _) hr3) rfl rfl (Or.inl rfl) rfl rfl rfl rfl (Nat.le_trans (Nat.le_of_ble_eq_true rfl) hd) (Nat.le_of_ble_eq_true rfl) (Nat.le_of_ble_eq_true rfl) (Nat.le_of_ble_eq_true rfl) (fun x hx => absurd hx List.not_mem_nil) (q_nmL0 _) (q_nmS0 _) rfl (pos' := 11) (st' := []) (lI' := [(467, r3.1), (468, r3.2.1), (469, r3.2.2)]) (lE' := []) rfl rfl (q_mgw rfl rfl) rfl ?_
  refine q_blk 3 [] (c' := q_kc (t, r, m, z, N, ext, rx, L) I E 14 [some (.ref 457), some (.int x1), some (.int x2)] [.int x2, .ref 467] [(467, r3.1), (468, r3.2.1), (469, r3.2.2)] []) ok_X2_ropesAway rfl q_cn ?_
  obtain ⟨r4, hr4, hf⟩ := q_bd hf
  refine q_kV (M2 := m_X4_ropesTo) (As := [.int x2]) (b := 467) (v2 := some (.int r4)) ok_X2_ropesAway ok_X4_ropesTo cv_X4_ropesTo (ct_X4_ropesTo_467 (d := 1) (Nat.le_refl _) hr4) rfl rfl (Or.inl rfl) rfl rfl rfl rfl (Nat.le_trans (Nat.le_of_ble_eq_true rfl) hd) (Nat.le_of_ble_eq_true rfl) (Nat.le_of_ble_eq_true rfl) (Nat.le_of_ble_eq_true rfl) (fun x hx => absurd hx List.not_mem_nil) (q_nmL0 _) (q_nmS0 _) rfl (pos' := 15) (st' := [.int r4]) (lI' := [(467, r3.1), (468, r3.2.1), (469, r3.2.2)]) (lE' := []) rfl rfl rfl rfl ?_
  cases hf
  exact q_kri ok_X2_ropesAway rfl rfl rfl (Nat.le_of_ble_eq_true rfl) (Nat.le_of_ble_eq_true rfl) ⟨rfl, q_hpe (q_pdw [467, 468, 469] rfl rfl) (q_pdw [] rfl rfl)⟩
set_option maxHeartbeats 4000000 in
theorem ct_X12_ropesBetween_400 {g : q_G} {t : Nat} {r : Nat} {m : Nat} {z : Nat} {N : Nat} {ext : Nat → q_Sh} {rx : Nat → Nat → Option Nat} {L : Nat → Nat → Int64} {d : Nat} (hd : 8 ≤ d)  {I : Nat → Nat → Int32} {E : Nat → Nat → Option Nat} {x1 : Int32} {x2 : Int32} {r0 : (Int32 ⊕ String) × (Nat → Int32) × (Nat → Int32) × (Nat → Int32)} (hf : f_X12_ropesBetween (I 402) (I 463) (I 464) (I 467) (I 468) (I 469) (I 470) x1 x2 = some r0) : q_Ct g m_X12_ropesBetween d 6 36 [] [.ref 400, .int x1, .int x2] (q_hp (t, r, m, z, N, ext, rx, L) I E) (fun o h' => o = q_oI r0.1 ∧ h' = q_hp (t, r, m, z, N, ext, rx, L) (q_ws I [(467, r0.2.1), (468, r0.2.2.1), (469, r0.2.2.2)]) (q_ws E [])) := by
  rw [f_X12_ropesBetween] at hf
  refine q_Ct_of ok_X12_ropesBetween (Nat.le_of_ble_eq_true rfl) ?_ _ rfl rfl
  change q_J g m_X12_ropesBetween d 6 36 _ [] _ 0 0 (q_kc (t, r, m, z, N, ext, rx, L) I E 0 [some (.ref 400), some (.int x1), some (.int x2)] [] [] [])
  refine q_blk 2 [] (c' := q_kc (t, r, m, z, N, ext, rx, L) I E 2 [some (.ref 400), some (.int x1), some (.int x2)] [.int x1, .ref 400] [] []) ok_X12_ropesBetween rfl q_cn ?_
  obtain ⟨r1, hr1, hf⟩ := q_bd hf
  cases hv4 : r1 with
  | inl v2 =>
    have hf := q_sm0 hv4 hf
    refine q_kV (M2 := m_X12_checkHook) (As := [.int x1]) (b := 400) (v2 := none) ok_X12_ropesBetween ok_X12_checkHook cv_X12_checkHook (ct_X12_checkHook_400 (d := 6) (Nat.le_refl _) hr1) (q_oVl hv4) rfl (Or.inl rfl) rfl rfl rfl rfl (Nat.le_trans (Nat.le_of_ble_eq_true rfl) hd) (Nat.le_of_ble_eq_true rfl) (Nat.le_of_ble_eq_true rfl) (Nat.le_of_ble_eq_true rfl) (fun x hx => absurd hx List.not_mem_nil) (q_nmL0 _) (q_nmS0 _) rfl (pos' := 3) (st' := []) (lI' := []) (lE' := []) rfl rfl rfl rfl ?_
    refine q_blk 2 [] (c' := q_kc (t, r, m, z, N, ext, rx, L) I E 5 [some (.ref 400), some (.int x1), some (.int x2)] [.int x2, .ref 400] [] []) ok_X12_ropesBetween rfl q_cn ?_
    obtain ⟨r5, hr5, hf⟩ := q_bd hf
    cases hv8 : r5 with
    | inl v6 =>
      have hf := q_sm0 hv8 hf
      refine q_kV (M2 := m_X12_checkHook) (As := [.int x2]) (b := 400) (v2 := none) ok_X12_ropesBetween ok_X12_checkHook cv_X12_checkHook (ct_X12_checkHook_400 (d := 6) (Nat.le_refl _) hr5) (q_oVl hv8) rfl (Or.inl rfl) rfl rfl rfl rfl (Nat.le_trans (Nat.le_of_ble_eq_true rfl) hd) (Nat.le_of_ble_eq_true rfl) (Nat.le_of_ble_eq_true rfl) (Nat.le_of_ble_eq_true rfl) (fun x hx => absurd hx List.not_mem_nil) (q_nmL0 _) (q_nmS0 _) rfl (pos' := 6) (st' := []) (lI' := []) (lE' := []) rfl rfl rfl rfl ?_
      refine q_blk 4 [] (c' := q_kc (t, r, m, z, N, ext, rx, L) I E 10 [some (.ref 400), some (.int x1), some (.int x2)] [.int x1, .ref 400, .ref 457] [] []) ok_X12_ropesBetween rfl q_cn ?_
      obtain ⟨r9, hr9, hf⟩ := q_bd hf
      cases hv12 : r9 with
      | inl v10 =>
        have hf := q_sm0 hv12 hf
        refine q_kV (M2 := m_X12_heldBale) (As := [.int x1]) (b := 400) (v2 := some (.int v10)) ok_X12_ropesBetween ok_X12_heldBale cv_X12_heldBale (ct_X12_heldBale_400 (d := 7) (Nat.le_refl _) hr9) (q_oIl hv12) rfl (Or.inl rfl) rfl rfl rfl rfl (Nat.le_trans (Nat.le_of_ble_eq_true rfl) hd) (Nat.le_of_ble_eq_true rfl) (Nat.le_of_ble_eq_true rfl) (Nat.le_of_ble_eq_true rfl) (fun x hx => absurd hx List.not_mem_nil) (q_nmL0 _) (q_nmS0 _) rfl (pos' := 11) (st' := [.int v10, .ref 457]) (lI' := []) (lE' := []) rfl rfl rfl rfl ?_
        refine q_blk 2 [] (c' := q_kc (t, r, m, z, N, ext, rx, L) I E 13 [some (.ref 400), some (.int x1), some (.int x2)] [.int x2, .ref 400, .int v10, .ref 457] [] []) ok_X12_ropesBetween rfl q_cn ?_
        obtain ⟨r13, hr13, hf⟩ := q_bd hf
        cases hv16 : r13 with
        | inl v14 =>
          have hf := q_sm0 hv16 hf
          refine q_kV (M2 := m_X12_heldBale) (As := [.int x2]) (b := 400) (v2 := some (.int v14)) ok_X12_ropesBetween ok_X12_heldBale cv_X12_heldBale (ct_X12_heldBale_400 (d := 7) (Nat.le_refl _) hr13) (q_oIl hv16) rfl (Or.inl rfl) rfl rfl rfl rfl (Nat.le_trans (Nat.le_of_ble_eq_true rfl) hd) (Nat.le_of_ble_eq_true rfl) (Nat.le_of_ble_eq_true rfl) (Nat.le_of_ble_eq_true rfl) (fun x hx => absurd hx List.not_mem_nil) (q_nmL0 _) (q_nmS0 _) rfl (pos' := 14) (st' := [.int v14, .int v10, .ref 457]) (lI' := []) (lE' := []) rfl rfl rfl rfl ?_
          obtain ⟨r17, hr17, hf⟩ := q_bd hf
          refine q_kV (M2 := m_X2_ropesAway) (As := [.int v10, .int v14]) (b := 457) (v2 := some (.int r17.1)) ok_X12_ropesBetween ok_X2_ropesAway cv_X2_ropesAway (ct_X2_ropesAway_457 (d := 4) (Nat.le_refl _) hr17) rfl rfl (Or.inl rfl) rfl rfl rfl rfl (Nat.le_trans (Nat.le_of_ble_eq_true rfl) hd) (Nat.le_of_ble_eq_true rfl) (Nat.le_of_ble_eq_true rfl) (Nat.le_of_ble_eq_true rfl) (fun x hx => absurd hx List.not_mem_nil) (q_nmL0 _) (q_nmS0 _) rfl (pos' := 15) (st' := [.int r17.1]) (lI' := [(467, r17.2.1), (468, r17.2.2.1), (469, r17.2.2.2)]) (lE' := []) rfl rfl (q_mgw rfl rfl) rfl ?_
          cases hf
          exact q_kri ok_X12_ropesBetween rfl rfl rfl (Nat.le_of_ble_eq_true rfl) (Nat.le_of_ble_eq_true rfl) ⟨rfl, q_hpe (q_pdw [467, 468, 469] rfl rfl) (q_pdw [] rfl rfl)⟩
        | inr e15 =>
          have hf := q_sm1 hv16 hf
          cases hf
          refine q_kVx (M2 := m_X12_heldBale) (As := [.int x2]) (b := 400) ok_X12_ropesBetween ok_X12_heldBale cv_X12_heldBale (ct_X12_heldBale_400 (d := 7) (Nat.le_refl _) hr13) (q_oIr hv16) rfl (Or.inl rfl) rfl rfl rfl rfl (Nat.le_trans (Nat.le_of_ble_eq_true rfl) hd) (Nat.le_of_ble_eq_true rfl) (Nat.le_of_ble_eq_true rfl) (Nat.le_of_ble_eq_true rfl) (fun x hx => absurd hx List.not_mem_nil) (q_nmL0 _) (q_nmS0 _) rfl (lI' := []) (lE' := []) rfl rfl ⟨rfl, q_hpe (q_pdw [467, 468, 469] rfl rfl) (q_pdw [] rfl rfl)⟩
      | inr e11 =>
        have hf := q_sm1 hv12 hf
        cases hf
        refine q_kVx (M2 := m_X12_heldBale) (As := [.int x1]) (b := 400) ok_X12_ropesBetween ok_X12_heldBale cv_X12_heldBale (ct_X12_heldBale_400 (d := 7) (Nat.le_refl _) hr9) (q_oIr hv12) rfl (Or.inl rfl) rfl rfl rfl rfl (Nat.le_trans (Nat.le_of_ble_eq_true rfl) hd) (Nat.le_of_ble_eq_true rfl) (Nat.le_of_ble_eq_true rfl) (Nat.le_of_ble_eq_true rfl) (fun x hx => absurd hx List.not_mem_nil) (q_nmL0 _) (q_nmS0 _) rfl (lI' := []) (lE' := []) rfl rfl ⟨rfl, q_hpe (q_pdw [467, 468, 469] rfl rfl) (q_pdw [] rfl rfl)⟩
    | inr e7 =>
      have hf := q_sm1 hv8 hf
      cases hf
      refine q_kVx (M2 := m_X12_checkHook) (As := [.int x2]) (b := 400) ok_X12_ropesBetween ok_X12_checkHook cv_X12_checkHook (ct_X12_checkHook_400 (d := 6) (Nat.le_refl _) hr5) (q_oVr hv8) rfl (Or.inl rfl) rfl rfl rfl rfl (Nat.le_trans (Nat.le_of_ble_eq_true rfl) hd) (Nat.le_of_ble_eq_true rfl) (Nat.le_of_ble_eq_true rfl) (Nat.le_of_ble_eq_true rfl) (fun x hx => absurd hx List.not_mem_nil) (q_nmL0 _) (q_nmS0 _) rfl (lI' := []) (lE' := []) rfl rfl ⟨rfl, q_hpe (q_pdw [467, 468, 469] rfl rfl) (q_pdw [] rfl rfl)⟩
  | inr e3 =>
    have hf := q_sm1 hv4 hf
    cases hf
    refine q_kVx (M2 := m_X12_checkHook) (As := [.int x1]) (b := 400) ok_X12_ropesBetween ok_X12_checkHook cv_X12_checkHook (ct_X12_checkHook_400 (d := 6) (Nat.le_refl _) hr1) (q_oVr hv4) rfl (Or.inl rfl) rfl rfl rfl rfl (Nat.le_trans (Nat.le_of_ble_eq_true rfl) hd) (Nat.le_of_ble_eq_true rfl) (Nat.le_of_ble_eq_true rfl) (Nat.le_of_ble_eq_true rfl) (fun x hx => absurd hx List.not_mem_nil) (q_nmL0 _) (q_nmS0 _) rfl (lI' := []) (lE' := []) rfl rfl ⟨rfl, q_hpe (q_pdw [467, 468, 469] rfl rfl) (q_pdw [] rfl rfl)⟩
set_option maxHeartbeats 4000000 in
theorem ct_X2_freePlaces_457 {g : q_G} {t : Nat} {r : Nat} {m : Nat} {z : Nat} {N : Nat} {ext : Nat → q_Sh} {rx : Nat → Nat → Option Nat} {L : Nat → Nat → Int64} {d : Nat} (hd : 1 ≤ d)  {I : Nat → Nat → Int32} {E : Nat → Nat → Option Nat} {r0 : Int32} (hf : f_X2_freePlaces (I 402) (I 457) = some r0) : q_Ct g m_X2_freePlaces d 0 0 [] [.ref 457] (q_hp (t, r, m, z, N, ext, rx, L) I E) (fun o h' => o = .inl (some (.int r0)) ∧ h' = q_hp (t, r, m, z, N, ext, rx, L) (q_ws I []) (q_ws E [])) := by
  rw [f_X2_freePlaces] at hf
  refine q_Ct_of ok_X2_freePlaces (Nat.le_of_ble_eq_true rfl) ?_ _ rfl rfl
  change q_J g m_X2_freePlaces d 0 0 _ [] _ 0 0 (q_kc (t, r, m, z, N, ext, rx, L) I E 0 [some (.ref 457)] [] [] [])
  refine q_blk 6 [] (c' := q_kc (t, r, m, z, N, ext, rx, L) I E 6 [some (.ref 457)] [.int (((I 402) 0) - ((I 457) 8))] [] []) ok_X2_freePlaces rfl q_cn ?_
  cases hf
  exact q_kri ok_X2_freePlaces rfl rfl rfl (Nat.le_of_ble_eq_true rfl) (Nat.le_of_ble_eq_true rfl) ⟨rfl, q_hpe (q_pdw [] rfl rfl) (q_pdw [] rfl rfl)⟩
set_option maxHeartbeats 4000000 in
theorem ct_X1_liesInHalf_458 {g : q_G} {t : Nat} {r : Nat} {m : Nat} {z : Nat} {N : Nat} {ext : Nat → q_Sh} {rx : Nat → Nat → Option Nat} {L : Nat → Nat → Int64} {d : Nat} (hd : 1 ≤ d)  {I : Nat → Nat → Int32} {E : Nat → Nat → Option Nat} {x1 : Int32} {r0 : Bool} (hf : f_X1_liesInHalf (I 459) x1 = some r0) : q_Ct g m_X1_liesInHalf d 0 0 [] [.ref 458, .int x1] (q_hp (t, r, m, z, N, ext, rx, L) I E) (fun o h' => o = .inl (some (.int (q_bz r0))) ∧ h' = q_hp (t, r, m, z, N, ext, rx, L) (q_ws I []) (q_ws E [])) := by
  rw [f_X1_liesInHalf] at hf
  refine q_Ct_of ok_X1_liesInHalf (Nat.le_of_ble_eq_true rfl) ?_ _ rfl rfl
  change q_J g m_X1_liesInHalf d 0 0 _ [] _ 0 0 (q_kc (t, r, m, z, N, ext, rx, L) I E 0 [some (.ref 458), some (.int x1)] [] [] [])
  refine q_blf 1 [] (a := q_kc (t, r, m, z, N, ext, rx, L) I E 13 [some (.ref 458), some (.int x1)] [] [] []) (b := q_kc (t, r, m, z, N, ext, rx, L) I E 2 [some (.ref 458), some (.int x1)] [] [] []) (P := x1 < 0) ok_X1_liesInHalf rfl q_cn (fun h1 => ?_) (fun h1 => ?_)
  · have hf := q_ip h1 hf
    refine q_blk 1 [] (c' := q_kc (t, r, m, z, N, ext, rx, L) I E 14 [some (.ref 458), some (.int x1)] [.int (0 : Int32)] [] []) ok_X1_liesInHalf rfl q_cn ?_
    cases hf
    exact q_kri ok_X1_liesInHalf rfl rfl rfl (Nat.le_of_ble_eq_true rfl) (Nat.le_of_ble_eq_true rfl) ⟨rfl, q_hpe (q_pdw [] rfl rfl) (q_pdw [] rfl rfl)⟩
  · have hf := q_in h1 hf
    refine q_blf 2 [] (a := q_kc (t, r, m, z, N, ext, rx, L) I E 13 [some (.ref 458), some (.int x1)] [] [] []) (b := q_kc (t, r, m, z, N, ext, rx, L) I E 5 [some (.ref 458), some (.int x1)] [] [] []) (P := (128 : Int32) ≤ x1) ok_X1_liesInHalf rfl q_cn (fun h2 => ?_) (fun h2 => ?_)
    · have hf := q_ip h2 hf
      refine q_blk 1 [] (c' := q_kc (t, r, m, z, N, ext, rx, L) I E 14 [some (.ref 458), some (.int x1)] [.int (0 : Int32)] [] []) ok_X1_liesInHalf rfl q_cn ?_
      cases hf
      exact q_kri ok_X1_liesInHalf rfl rfl rfl (Nat.le_of_ble_eq_true rfl) (Nat.le_of_ble_eq_true rfl) ⟨rfl, q_hpe (q_pdw [] rfl rfl) (q_pdw [] rfl rfl)⟩
    · have hf := q_in h2 hf
      obtain ⟨j3, hj3, hf⟩ := q_bd hf
      refine q_blf 5 [j3] (a := q_kc (t, r, m, z, N, ext, rx, L) I E 13 [some (.ref 458), some (.int x1)] [] [] []) (b := q_kc (t, r, m, z, N, ext, rx, L) I E 11 [some (.ref 458), some (.int x1)] [] [] []) (P := ¬ ((I 459) j3) = (1 : Int32)) ok_X1_liesInHalf rfl (q_cc hj3 q_cn) (fun h4 => ?_) (fun h4 => ?_)
      · have hf := q_ip h4 hf
        refine q_blk 1 [] (c' := q_kc (t, r, m, z, N, ext, rx, L) I E 14 [some (.ref 458), some (.int x1)] [.int (0 : Int32)] [] []) ok_X1_liesInHalf rfl q_cn ?_
        cases hf
        exact q_kri ok_X1_liesInHalf rfl rfl rfl (Nat.le_of_ble_eq_true rfl) (Nat.le_of_ble_eq_true rfl) ⟨rfl, q_hpe (q_pdw [] rfl rfl) (q_pdw [] rfl rfl)⟩
      · have hf := q_in h4 hf
        refine q_blk 2 [] (c' := q_kc (t, r, m, z, N, ext, rx, L) I E 14 [some (.ref 458), some (.int x1)] [.int (1 : Int32)] [] []) ok_X1_liesInHalf rfl q_cn ?_
        cases hf
        exact q_kri ok_X1_liesInHalf rfl rfl rfl (Nat.le_of_ble_eq_true rfl) (Nat.le_of_ble_eq_true rfl) ⟨rfl, q_hpe (q_pdw [] rfl rfl) (q_pdw [] rfl rfl)⟩
set_option maxHeartbeats 4000000 in
theorem lp_X5_gapFor_L4_465 {g : q_G} {d mc ms : Nat} {h0 : q_H} {Q : (Option Value ⊕ String) → q_H → Prop} {k n : Nat} {t : Nat} {r : Nat} {m : Nat} {z : Nat} {N : Nat} {ext : Nat → q_Sh} {rx : Nat → Nat → Option Nat} {L : Nat → Nat → Int64} (hd : 1 ≤ d) (hk : k ≤ mc) (hn : n ≤ ms)  {v1 : Int32} : ∀ (fu : Nat) {I : Nat → Nat → Int32} {E : Nat → Nat → Option Nat} {v2 : Int32} {v3 : Int32} {r0 : Nat × Int32 × Int32} (hf : f_X5_gapFor_L4 (I 465) (I 466) v1 fu v2 v3 = some r0) (hK0 : r0.1 = 0 → q_J g m_X5_gapFor d mc ms h0 [] Q k n (q_kc (t, r, m, z, N, ext, rx, L) I E 34 [none, none, none, none] [] [] [])) (hK1 : r0.1 = 1 → q_J g m_X5_gapFor d mc ms h0 [] Q k n (q_kc (t, r, m, z, N, ext, rx, L) I E 26 [none, none, some (.int r0.2.1), some (.int r0.2.2)] [] [] [])), q_J g m_X5_gapFor d mc ms h0 [] Q k n (4, [some (.ref 465), some (.int v1), some (.int v2), some (.int v3)], [], q_hp (t, r, m, z, N, ext, rx, L) I E) := by
  intro fu
  induction fu with
  | zero =>
    intro I E v2 v3 r0 hf hK0 hK1
    rw [f_X5_gapFor_L4] at hf
    cases hf
  | succ fu ih =>
    intro I E v2 v3 r0 hf hK0 hK1
    rw [f_X5_gapFor_L4] at hf
    change q_J g m_X5_gapFor d mc ms h0 [] Q k n (q_kc (t, r, m, z, N, ext, rx, L) I E 4 [some (.ref 465), some (.int v1), some (.int v2), some (.int v3)] [] [] [])
    refine q_blf 3 [] (a := q_kc (t, r, m, z, N, ext, rx, L) I E 34 [some (.ref 465), some (.int v1), some (.int v2), some (.int v3)] [] [] []) (b := q_kc (t, r, m, z, N, ext, rx, L) I E 8 [some (.ref 465), some (.int v1), some (.int v2), some (.int v3)] [] [] []) (P := ((I 465) 1) ≤ v3) ok_X5_gapFor rfl q_cn (fun h1 => ?_) (fun h1 => ?_)
    · have hf := q_ip h1 hf
      refine q_less (ls' := [none, none, none, none]) (q_sb1 (q_sb1 (q_sb1 (q_sb1 q_sb0)))) ?_
      cases hf
      exact q_Jpad (q_pdw [] rfl rfl) (q_pdw [] rfl rfl) (hK0 rfl)
    · have hf := q_in h1 hf
      refine q_blf 2 [] (a := q_kc (t, r, m, z, N, ext, rx, L) I E 34 [some (.ref 465), some (.int v1), some (.int v2), some (.int v3)] [] [] []) (b := q_kc (t, r, m, z, N, ext, rx, L) I E 11 [some (.ref 465), some (.int v1), some (.int v2), some (.int v3)] [] [] []) (P := (64 : Int32) ≤ v3) ok_X5_gapFor rfl q_cn (fun h2 => ?_) (fun h2 => ?_)
      · have hf := q_ip h2 hf
        refine q_less (ls' := [none, none, none, none]) (q_sb1 (q_sb1 (q_sb1 (q_sb1 q_sb0)))) ?_
        cases hf
        exact q_Jpad (q_pdw [] rfl rfl) (q_pdw [] rfl rfl) (hK0 rfl)
      · have hf := q_in h2 hf
        obtain ⟨j3, hj3, hf⟩ := q_bd hf
        refine q_blf 5 [j3] (a := q_kc (t, r, m, z, N, ext, rx, L) I E 21 [some (.ref 465), some (.int v1), some (.int v2), some (.int v3)] [] [] []) (b := q_kc (t, r, m, z, N, ext, rx, L) I E 17 [some (.ref 465), some (.int v1), some (.int v2), some (.int v3)] [] [] []) (P := ¬ ((I 466) j3) = (-1 : Int32)) ok_X5_gapFor rfl (q_cc hj3 q_cn) (fun h4 => ?_) (fun h4 => ?_)
        · have hf := q_ip h4 hf
          refine q_blf 4 [] (a := q_kc (t, r, m, z, N, ext, rx, L) I E 32 [some (.ref 465), some (.int v1), some (.int (0 : Int32)), some (.int v3)] [] [] []) (b := q_kc (t, r, m, z, N, ext, rx, L) I E 26 [some (.ref 465), some (.int v1), some (.int (0 : Int32)), some (.int v3)] [] [] []) (P := (0 : Int32) < v1) ok_X5_gapFor rfl q_cn (fun h5 => ?_) (fun h5 => ?_)
          · have hf := q_ip h5 hf
            refine q_blk 2 [] (c' := q_kc (t, r, m, z, N, ext, rx, L) I E 4 [some (.ref 465), some (.int v1), some (.int (0 : Int32)), some (.int (v3 + 1))] [] [] []) ok_X5_gapFor rfl q_cn ?_
            exact ih (I := q_ws I []) (E := q_ws E []) hf (fun hz => q_Jmrg (q_mgw rfl rfl) (q_mgw rfl rfl) (hK0 hz)) (fun hz => q_Jmrg (q_mgw rfl rfl) (q_mgw rfl rfl) (hK1 hz))
          · have hf := q_in h5 hf
            refine q_less (ls' := [none, none, some (.int (0 : Int32)), some (.int v3)]) (q_sb1 (q_sb1 (q_sb2 (q_sb2 q_sb0)))) ?_
            cases hf
            exact q_Jpad (q_pdw [] rfl rfl) (q_pdw [] rfl rfl) (hK1 rfl)
        · have hf := q_in h4 hf
          refine q_blf 7 [] (a := q_kc (t, r, m, z, N, ext, rx, L) I E 32 [some (.ref 465), some (.int v1), some (.int (v2 + (1 : Int32))), some (.int v3)] [] [] []) (b := q_kc (t, r, m, z, N, ext, rx, L) I E 26 [some (.ref 465), some (.int v1), some (.int (v2 + (1 : Int32))), some (.int v3)] [] [] []) (P := (v2 + (1 : Int32)) < v1) ok_X5_gapFor rfl q_cn (fun h6 => ?_) (fun h6 => ?_)
          · have hf := q_ip h6 hf
            refine q_blk 2 [] (c' := q_kc (t, r, m, z, N, ext, rx, L) I E 4 [some (.ref 465), some (.int v1), some (.int (v2 + (1 : Int32))), some (.int (v3 + 1))] [] [] []) ok_X5_gapFor rfl q_cn ?_
            exact ih (I := q_ws I []) (E := q_ws E []) hf (fun hz => q_Jmrg (q_mgw rfl rfl) (q_mgw rfl rfl) (hK0 hz)) (fun hz => q_Jmrg (q_mgw rfl rfl) (q_mgw rfl rfl) (hK1 hz))
          · have hf := q_in h6 hf
            refine q_less (ls' := [none, none, some (.int (v2 + (1 : Int32))), some (.int v3)]) (q_sb1 (q_sb1 (q_sb2 (q_sb2 q_sb0)))) ?_
            cases hf
            exact q_Jpad (q_pdw [] rfl rfl) (q_pdw [] rfl rfl) (hK1 rfl)
set_option maxHeartbeats 4000000 in
theorem ct_X5_gapFor_465 {g : q_G} {t : Nat} {r : Nat} {m : Nat} {z : Nat} {N : Nat} {ext : Nat → q_Sh} {rx : Nat → Nat → Option Nat} {L : Nat → Nat → Int64} {d : Nat} (hd : 1 ≤ d)  {I : Nat → Nat → Int32} {E : Nat → Nat → Option Nat} {x1 : Int32} {r0 : Int32} (hf : f_X5_gapFor (I 465) (I 466) x1 = some r0) : q_Ct g m_X5_gapFor d 0 0 [] [.ref 465, .int x1] (q_hp (t, r, m, z, N, ext, rx, L) I E) (fun o h' => o = .inl (some (.int r0)) ∧ h' = q_hp (t, r, m, z, N, ext, rx, L) (q_ws I []) (q_ws E [])) := by
  rw [f_X5_gapFor] at hf
  refine q_Ct_of ok_X5_gapFor (Nat.le_of_ble_eq_true rfl) ?_ _ rfl rfl
  change q_J g m_X5_gapFor d 0 0 _ [] _ 0 0 (q_kc (t, r, m, z, N, ext, rx, L) I E 0 [some (.ref 465), some (.int x1), none, none] [] [] [])
  refine q_blk 4 [] (c' := q_kc (t, r, m, z, N, ext, rx, L) I E 4 [some (.ref 465), some (.int x1), some (.int (0 : Int32)), some (.int (0 : Int32))] [] [] []) ok_X5_gapFor rfl q_cn ?_
  obtain ⟨r7, hr7, hf⟩ := q_bd hf
  refine lp_X5_gapFor_L4_465 (I := q_ws I []) (E := q_ws E []) hd (Nat.le_of_ble_eq_true rfl) (Nat.le_of_ble_eq_true rfl) 4096 hr7 ?_ ?_
  · intro hz0
    have hf := q_ip hz0 hf
    refine q_Jmrg (lI' := []) (lE' := []) (q_mgw rfl rfl) (q_mgw rfl rfl) ?_
    refine q_blk 1 [] (c' := q_kc (t, r, m, z, N, ext, rx, L) I E 35 [none, none, none, none] [.int (-1 : Int32)] [] []) ok_X5_gapFor rfl q_cn ?_
    cases hf
    exact q_kri ok_X5_gapFor rfl rfl rfl (Nat.le_of_ble_eq_true rfl) (Nat.le_of_ble_eq_true rfl) ⟨rfl, q_hpe (q_pdw [] rfl rfl) (q_pdw [] rfl rfl)⟩
  · intro hz1
    have hf := q_in (fun h9 => absurd (hz1.symm.trans h9) (by decide)) hf
    refine q_Jmrg (lI' := []) (lE' := []) (q_mgw rfl rfl) (q_mgw rfl rfl) ?_
    refine q_blk 5 [] (c' := q_kc (t, r, m, z, N, ext, rx, L) I E 31 [none, none, some (.int r7.2.1), some (.int r7.2.2)] [.int ((r7.2.2 + (1 : Int32)) - r7.2.1)] [] []) ok_X5_gapFor rfl q_cn ?_
    cases hf
    exact q_kri ok_X5_gapFor rfl rfl rfl (Nat.le_of_ble_eq_true rfl) (Nat.le_of_ble_eq_true rfl) ⟨rfl, q_hpe (q_pdw [] rfl rfl) (q_pdw [] rfl rfl)⟩
set_option maxHeartbeats 4000000 in
theorem ct_X1_copyTo_458 {g : q_G} {t : Nat} {r : Nat} {m : Nat} {z : Nat} {N : Nat} {ext : Nat → q_Sh} {rx : Nat → Nat → Option Nat} {L : Nat → Nat → Int64} {d : Nat} (hd : 1 ≤ d)  {I : Nat → Nat → Int32} {E : Nat → Nat → Option Nat} {x1 : Int32} {x2 : Int32} {r0 : (Nat → Int32) × (Nat → Int32)} (hf : f_X1_copyTo (I 460) (I 462) x1 x2 = some r0) : q_Ct g m_X1_copyTo d 0 0 [] [.ref 458, .int x1, .int x2] (q_hp (t, r, m, z, N, ext, rx, L) I E) (fun o h' => o = .inl none ∧ h' = q_hp (t, r, m, z, N, ext, rx, L) (q_ws I [(460, r0.1), (462, r0.2)]) (q_ws E [])) := by
  rw [f_X1_copyTo] at hf
  refine q_Ct_of ok_X1_copyTo (Nat.le_of_ble_eq_true rfl) ?_ _ rfl rfl
  change q_J g m_X1_copyTo d 0 0 _ [] _ 0 0 (q_kc (t, r, m, z, N, ext, rx, L) I E 0 [some (.ref 458), some (.int x1), some (.int x2)] [] [] [])
  refine q_blf 1 [] (a := q_kc (t, r, m, z, N, ext, rx, L) I E 18 [some (.ref 458), some (.int x1), some (.int x2)] [] [] []) (b := q_kc (t, r, m, z, N, ext, rx, L) I E 2 [some (.ref 458), some (.int x1), some (.int x2)] [] [] []) (P := x1 < 0) ok_X1_copyTo rfl q_cn (fun h1 => ?_) (fun h1 => ?_)
  · have hf := q_ip h1 hf
    cases hf
    exact q_krv ok_X1_copyTo rfl rfl (Nat.le_of_ble_eq_true rfl) (Nat.le_of_ble_eq_true rfl) ⟨rfl, q_hpe (q_pdw [460, 462] rfl rfl) (q_pdw [] rfl rfl)⟩
  · have hf := q_in h1 hf
    refine q_blf 2 [] (a := q_kc (t, r, m, z, N, ext, rx, L) I E 18 [some (.ref 458), some (.int x1), some (.int x2)] [] [] []) (b := q_kc (t, r, m, z, N, ext, rx, L) I E 5 [some (.ref 458), some (.int x1), some (.int x2)] [] [] []) (P := (128 : Int32) ≤ x1) ok_X1_copyTo rfl q_cn (fun h2 => ?_) (fun h2 => ?_)
    · have hf := q_ip h2 hf
      cases hf
      exact q_krv ok_X1_copyTo rfl rfl (Nat.le_of_ble_eq_true rfl) (Nat.le_of_ble_eq_true rfl) ⟨rfl, q_hpe (q_pdw [460, 462] rfl rfl) (q_pdw [] rfl rfl)⟩
    · have hf := q_in h2 hf
      obtain ⟨j3, hj3, hf⟩ := q_bd hf
      obtain ⟨j4, hj4, hf⟩ := q_bd hf
      obtain ⟨j5, hj5, hf⟩ := q_bd hf
      refine q_blk 13 [j3, j4, j5] (c' := q_kc (t, r, m, z, N, ext, rx, L) I E 18 [some (.ref 458), some (.int x1), some (.int x2)] [] [(460, (q_up (I 460) j3 x2)), (462, (q_up (I 462) j5 (((I 462) j4) + (1 : Int32))))] []) ok_X1_copyTo rfl (q_cc hj5 (q_cc hj4 (q_cc hj3 q_cn))) ?_
      cases hf
      exact q_krv ok_X1_copyTo rfl rfl (Nat.le_of_ble_eq_true rfl) (Nat.le_of_ble_eq_true rfl) ⟨rfl, q_hpe (q_pdw [460, 462] rfl rfl) (q_pdw [] rfl rfl)⟩
set_option maxHeartbeats 4000000 in
theorem ct_X2_layInRow_457 {g : q_G} {t : Nat} {r : Nat} {m : Nat} {z : Nat} {N : Nat} {ext : Nat → q_Sh} {rx : Nat → Nat → Option Nat} {L : Nat → Nat → Int64} {d : Nat} (hd : 1 ≤ d)  {I : Nat → Nat → Int32} {E : Nat → Nat → Option Nat} {x1 : Int32} {x2 : Int32} {r0 : (Nat → Int32) × (Nat → Int32)} (hf : f_X2_layInRow (I 457) (I 471) x1 x2 = some r0) : q_Ct g m_X2_layInRow d 0 0 [] [.ref 457, .int x1, .int x2] (q_hp (t, r, m, z, N, ext, rx, L) I E) (fun o h' => o = .inl none ∧ h' = q_hp (t, r, m, z, N, ext, rx, L) (q_ws I [(457, r0.1), (471, r0.2)]) (q_ws E [])) := by
  rw [f_X2_layInRow] at hf
  refine q_Ct_of ok_X2_layInRow (Nat.le_of_ble_eq_true rfl) ?_ _ rfl rfl
  change q_J g m_X2_layInRow d 0 0 _ [] _ 0 0 (q_kc (t, r, m, z, N, ext, rx, L) I E 0 [some (.ref 457), some (.int x1), some (.int x2)] [] [] [])
  refine q_blf 2 [] (a := q_kc (t, r, m, z, N, ext, rx, L) I E 25 [some (.ref 457), some (.int x1), some (.int x2)] [] [] []) (b := q_kc (t, r, m, z, N, ext, rx, L) I E 3 [some (.ref 457), some (.int x1), some (.int x2)] [] [] []) (P := ((I 457) 7) < 0) ok_X2_layInRow rfl q_cn (fun h1 => ?_) (fun h1 => ?_)
  · have hf := q_ip h1 hf
    cases hf
    exact q_krv ok_X2_layInRow rfl rfl (Nat.le_of_ble_eq_true rfl) (Nat.le_of_ble_eq_true rfl) ⟨rfl, q_hpe (q_pdw [457, 471] rfl rfl) (q_pdw [] rfl rfl)⟩
  · have hf := q_in h1 hf
    refine q_blf 3 [] (a := q_kc (t, r, m, z, N, ext, rx, L) I E 25 [some (.ref 457), some (.int x1), some (.int x2)] [] [] []) (b := q_kc (t, r, m, z, N, ext, rx, L) I E 7 [some (.ref 457), some (.int x1), some (.int x2)] [] [] []) (P := (64 : Int32) ≤ ((I 457) 7)) ok_X2_layInRow rfl q_cn (fun h2 => ?_) (fun h2 => ?_)
    · have hf := q_ip h2 hf
      cases hf
      exact q_krv ok_X2_layInRow rfl rfl (Nat.le_of_ble_eq_true rfl) (Nat.le_of_ble_eq_true rfl) ⟨rfl, q_hpe (q_pdw [457, 471] rfl rfl) (q_pdw [] rfl rfl)⟩
    · have hf := q_in h2 hf
      obtain ⟨j3, hj3, hf⟩ := q_bd hf
      refine q_blk 18 [j3] (c' := q_kc (t, r, m, z, N, ext, rx, L) I E 25 [some (.ref 457), some (.int x1), some (.int x2)] [] [(457, (q_up (q_up (I 457) 7 (((I 457) 7) + (1 : Int32))) 8 (((q_up (I 457) 7 (((I 457) 7) + (1 : Int32))) 8) + x2))), (471, (q_up (I 471) j3 x1))] []) ok_X2_layInRow rfl (q_cc hj3 q_cn) ?_
      cases hf
      exact q_krv ok_X2_layInRow rfl rfl (Nat.le_of_ble_eq_true rfl) (Nat.le_of_ble_eq_true rfl) ⟨rfl, q_hpe (q_pdw [457, 471] rfl rfl) (q_pdw [] rfl rfl)⟩
set_option maxHeartbeats 4000000 in
theorem ct_X1_promoteTo_458 {g : q_G} {t : Nat} {r : Nat} {m : Nat} {z : Nat} {N : Nat} {ext : Nat → q_Sh} {rx : Nat → Nat → Option Nat} {L : Nat → Nat → Int64} {d : Nat} (hd : 1 ≤ d)  {I : Nat → Nat → Int32} {E : Nat → Nat → Option Nat} {x1 : Int32} {x2 : Int32} {r0 : (Nat → Int32) × (Nat → Int32)} (hf : f_X1_promoteTo (I 459) (I 460) x1 x2 = some r0) : q_Ct g m_X1_promoteTo d 0 0 [] [.ref 458, .int x1, .int x2] (q_hp (t, r, m, z, N, ext, rx, L) I E) (fun o h' => o = .inl none ∧ h' = q_hp (t, r, m, z, N, ext, rx, L) (q_ws I [(459, r0.1), (460, r0.2)]) (q_ws E [])) := by
  rw [f_X1_promoteTo] at hf
  refine q_Ct_of ok_X1_promoteTo (Nat.le_of_ble_eq_true rfl) ?_ _ rfl rfl
  change q_J g m_X1_promoteTo d 0 0 _ [] _ 0 0 (q_kc (t, r, m, z, N, ext, rx, L) I E 0 [some (.ref 458), some (.int x1), some (.int x2)] [] [] [])
  refine q_blf 1 [] (a := q_kc (t, r, m, z, N, ext, rx, L) I E 15 [some (.ref 458), some (.int x1), some (.int x2)] [] [] []) (b := q_kc (t, r, m, z, N, ext, rx, L) I E 2 [some (.ref 458), some (.int x1), some (.int x2)] [] [] []) (P := x1 < 0) ok_X1_promoteTo rfl q_cn (fun h1 => ?_) (fun h1 => ?_)
  · have hf := q_ip h1 hf
    cases hf
    exact q_krv ok_X1_promoteTo rfl rfl (Nat.le_of_ble_eq_true rfl) (Nat.le_of_ble_eq_true rfl) ⟨rfl, q_hpe (q_pdw [459, 460] rfl rfl) (q_pdw [] rfl rfl)⟩
  · have hf := q_in h1 hf
    refine q_blf 2 [] (a := q_kc (t, r, m, z, N, ext, rx, L) I E 15 [some (.ref 458), some (.int x1), some (.int x2)] [] [] []) (b := q_kc (t, r, m, z, N, ext, rx, L) I E 5 [some (.ref 458), some (.int x1), some (.int x2)] [] [] []) (P := (128 : Int32) ≤ x1) ok_X1_promoteTo rfl q_cn (fun h2 => ?_) (fun h2 => ?_)
    · have hf := q_ip h2 hf
      cases hf
      exact q_krv ok_X1_promoteTo rfl rfl (Nat.le_of_ble_eq_true rfl) (Nat.le_of_ble_eq_true rfl) ⟨rfl, q_hpe (q_pdw [459, 460] rfl rfl) (q_pdw [] rfl rfl)⟩
    · have hf := q_in h2 hf
      obtain ⟨j3, hj3, hf⟩ := q_bd hf
      obtain ⟨j4, hj4, hf⟩ := q_bd hf
      refine q_blk 10 [j3, j4] (c' := q_kc (t, r, m, z, N, ext, rx, L) I E 15 [some (.ref 458), some (.int x1), some (.int x2)] [] [(459, (q_up (I 459) j4 (2 : Int32))), (460, (q_up (I 460) j3 x2))] []) ok_X1_promoteTo rfl (q_cc hj4 (q_cc hj3 q_cn)) ?_
      cases hf
      exact q_krv ok_X1_promoteTo rfl rfl (Nat.le_of_ble_eq_true rfl) (Nat.le_of_ble_eq_true rfl) ⟨rfl, q_hpe (q_pdw [459, 460] rfl rfl) (q_pdw [] rfl rfl)⟩
set_option maxHeartbeats 4000000 in
theorem lp_X5_lay_L2_465 {g : q_G} {d mc ms : Nat} {h0 : q_H} {Q : (Option Value ⊕ String) → q_H → Prop} {k n : Nat} {t : Nat} {r : Nat} {m : Nat} {z : Nat} {N : Nat} {ext : Nat → q_Sh} {rx : Nat → Nat → Option Nat} {L : Nat → Nat → Int64} (hd : 1 ≤ d) (hk : k ≤ mc) (hn : n ≤ ms)  {v1 : Int32} {v2 : Int32} {v3 : Int32} : ∀ (fu : Nat) {I : Nat → Nat → Int32} {E : Nat → Nat → Option Nat} {v4 : Int32} {r0 : (Nat → Int32)} (hf : f_X5_lay_L2 (I 465) v1 v2 v3 fu (I 466) v4 = some r0) (hK0 : q_J g m_X5_lay d mc ms h0 [] Q k n (q_kc (t, r, m, z, N, ext, rx, L) I E 25 [some (.ref 465), some (.int v1), none, none, none, none] [] [(466, r0)] [])), q_J g m_X5_lay d mc ms h0 [] Q k n (2, [some (.ref 465), some (.int v1), some (.int v2), some (.int v3), some (.int v4), none], [], q_hp (t, r, m, z, N, ext, rx, L) I E) := by
  intro fu
  induction fu with
  | zero =>
    intro I E v4 r0 hf hK0
    rw [f_X5_lay_L2] at hf
    cases hf
  | succ fu ih =>
    intro I E v4 r0 hf hK0
    rw [f_X5_lay_L2] at hf
    change q_J g m_X5_lay d mc ms h0 [] Q k n (q_kc (t, r, m, z, N, ext, rx, L) I E 2 [some (.ref 465), some (.int v1), some (.int v2), some (.int v3), some (.int v4), none] [] [] [])
    refine q_blf 2 [] (a := q_kc (t, r, m, z, N, ext, rx, L) I E 25 [some (.ref 465), some (.int v1), some (.int v2), some (.int v3), some (.int v4), none] [] [] []) (b := q_kc (t, r, m, z, N, ext, rx, L) I E 5 [some (.ref 465), some (.int v1), some (.int v2), some (.int v3), some (.int v4), none] [] [] []) (P := v3 ≤ v4) ok_X5_lay rfl q_cn (fun h1 => ?_) (fun h1 => ?_)
    · have hf := q_ip h1 hf
      refine q_less (ls' := [some (.ref 465), some (.int v1), none, none, none, none]) (q_sb2 (q_sb2 (q_sb1 (q_sb1 (q_sb1 (q_sb1 q_sb0)))))) ?_
      cases hf
      exact q_Jpad (q_pdw [466] rfl rfl) (q_pdw [] rfl rfl) hK0
    · have hf := q_in h1 hf
      refine q_blf 5 [] (a := q_kc (t, r, m, z, N, ext, rx, L) I E 23 [some (.ref 465), some (.int v1), some (.int v2), some (.int v3), some (.int v4), some (.int (v2 + v4))] [] [] []) (b := q_kc (t, r, m, z, N, ext, rx, L) I E 11 [some (.ref 465), some (.int v1), some (.int v2), some (.int v3), some (.int v4), some (.int (v2 + v4))] [] [] []) (P := (v2 + v4) < 0) ok_X5_lay rfl q_cn (fun h2 => ?_) (fun h2 => ?_)
      · have hf := q_ip h2 hf
        refine q_blk 2 [] (c' := q_kc (t, r, m, z, N, ext, rx, L) I E 2 [some (.ref 465), some (.int v1), some (.int v2), some (.int v3), some (.int (v4 + 1)), some (.int (v2 + v4))] [] [] []) ok_X5_lay rfl q_cn ?_
        refine q_less (ls' := [some (.ref 465), some (.int v1), some (.int v2), some (.int v3), some (.int (v4 + 1)), none]) (q_sb2 (q_sb2 (q_sb2 (q_sb2 (q_sb2 (q_sb1 q_sb0)))))) ?_
        exact ih (I := q_ws I []) (E := q_ws E []) hf (q_Jmrg (q_mgw rfl rfl) (q_mgw rfl rfl) hK0)
      · have hf := q_in h2 hf
        refine q_blf 3 [] (a := q_kc (t, r, m, z, N, ext, rx, L) I E 23 [some (.ref 465), some (.int v1), some (.int v2), some (.int v3), some (.int v4), some (.int (v2 + v4))] [] [] []) (b := q_kc (t, r, m, z, N, ext, rx, L) I E 15 [some (.ref 465), some (.int v1), some (.int v2), some (.int v3), some (.int v4), some (.int (v2 + v4))] [] [] []) (P := ((I 465) 1) ≤ (v2 + v4)) ok_X5_lay rfl q_cn (fun h3 => ?_) (fun h3 => ?_)
        · have hf := q_ip h3 hf
          refine q_blk 2 [] (c' := q_kc (t, r, m, z, N, ext, rx, L) I E 2 [some (.ref 465), some (.int v1), some (.int v2), some (.int v3), some (.int (v4 + 1)), some (.int (v2 + v4))] [] [] []) ok_X5_lay rfl q_cn ?_
          refine q_less (ls' := [some (.ref 465), some (.int v1), some (.int v2), some (.int v3), some (.int (v4 + 1)), none]) (q_sb2 (q_sb2 (q_sb2 (q_sb2 (q_sb2 (q_sb1 q_sb0)))))) ?_
          exact ih (I := q_ws I []) (E := q_ws E []) hf (q_Jmrg (q_mgw rfl rfl) (q_mgw rfl rfl) hK0)
        · have hf := q_in h3 hf
          refine q_blf 2 [] (a := q_kc (t, r, m, z, N, ext, rx, L) I E 23 [some (.ref 465), some (.int v1), some (.int v2), some (.int v3), some (.int v4), some (.int (v2 + v4))] [] [] []) (b := q_kc (t, r, m, z, N, ext, rx, L) I E 18 [some (.ref 465), some (.int v1), some (.int v2), some (.int v3), some (.int v4), some (.int (v2 + v4))] [] [] []) (P := (64 : Int32) ≤ (v2 + v4)) ok_X5_lay rfl q_cn (fun h4 => ?_) (fun h4 => ?_)
          · have hf := q_ip h4 hf
            refine q_blk 2 [] (c' := q_kc (t, r, m, z, N, ext, rx, L) I E 2 [some (.ref 465), some (.int v1), some (.int v2), some (.int v3), some (.int (v4 + 1)), some (.int (v2 + v4))] [] [] []) ok_X5_lay rfl q_cn ?_
            refine q_less (ls' := [some (.ref 465), some (.int v1), some (.int v2), some (.int v3), some (.int (v4 + 1)), none]) (q_sb2 (q_sb2 (q_sb2 (q_sb2 (q_sb2 (q_sb1 q_sb0)))))) ?_
            exact ih (I := q_ws I []) (E := q_ws E []) hf (q_Jmrg (q_mgw rfl rfl) (q_mgw rfl rfl) hK0)
          · have hf := q_in h4 hf
            obtain ⟨j5, hj5, hf⟩ := q_bd hf
            refine q_blk 7 [j5] (c' := q_kc (t, r, m, z, N, ext, rx, L) I E 2 [some (.ref 465), some (.int v1), some (.int v2), some (.int v3), some (.int (v4 + 1)), some (.int (v2 + v4))] [] [(466, (q_up (I 466) j5 v1))] []) ok_X5_lay rfl (q_cc hj5 q_cn) ?_
            refine q_less (ls' := [some (.ref 465), some (.int v1), some (.int v2), some (.int v3), some (.int (v4 + 1)), none]) (q_sb2 (q_sb2 (q_sb2 (q_sb2 (q_sb2 (q_sb1 q_sb0)))))) ?_
            exact ih (I := q_ws I [(466, (q_up (I 466) j5 v1))]) (E := q_ws E []) hf (q_Jmrg (q_mgw rfl rfl) (q_mgw rfl rfl) hK0)
set_option maxHeartbeats 4000000 in
theorem ct_X5_lay_465 {g : q_G} {t : Nat} {r : Nat} {m : Nat} {z : Nat} {N : Nat} {ext : Nat → q_Sh} {rx : Nat → Nat → Option Nat} {L : Nat → Nat → Int64} {d : Nat} (hd : 1 ≤ d)  {I : Nat → Nat → Int32} {E : Nat → Nat → Option Nat} {x1 : Int32} {x2 : Int32} {x3 : Int32} {r0 : (Nat → Int32) × (Nat → Int32)} (hf : f_X5_lay (I 465) (I 466) x1 x2 x3 = some r0) : q_Ct g m_X5_lay d 0 0 [] [.ref 465, .int x1, .int x2, .int x3] (q_hp (t, r, m, z, N, ext, rx, L) I E) (fun o h' => o = .inl none ∧ h' = q_hp (t, r, m, z, N, ext, rx, L) (q_ws I [(465, r0.1), (466, r0.2)]) (q_ws E [])) := by
  rw [f_X5_lay] at hf
  refine q_Ct_of ok_X5_lay (Nat.le_of_ble_eq_true rfl) ?_ _ rfl rfl
  change q_J g m_X5_lay d 0 0 _ [] _ 0 0 (q_kc (t, r, m, z, N, ext, rx, L) I E 0 [some (.ref 465), some (.int x1), some (.int x2), some (.int x3), none, none] [] [] [])
  refine q_blk 2 [] (c' := q_kc (t, r, m, z, N, ext, rx, L) I E 2 [some (.ref 465), some (.int x1), some (.int x2), some (.int x3), some (.int (0 : Int32)), none] [] [] []) ok_X5_lay rfl q_cn ?_
  obtain ⟨r6, hr6, hf⟩ := q_bd hf
  refine lp_X5_lay_L2_465 (I := q_ws I []) (E := q_ws E []) hd (Nat.le_of_ble_eq_true rfl) (Nat.le_of_ble_eq_true rfl) 4096 hr6 ?_
  refine q_Jmrg (lI' := [(466, r6)]) (lE' := []) (q_mgw rfl rfl) (q_mgw rfl rfl) ?_
  refine q_blf 5 [] (a := q_kc (t, r, m, z, N, ext, rx, L) I E 33 [some (.ref 465), some (.int x1), none, none, none, none] [.int ((I 465) 2), .ref 465] [(466, r6)] []) (b := q_kc (t, r, m, z, N, ext, rx, L) I E 31 [some (.ref 465), some (.int x1), none, none, none, none] [.int ((I 465) 2), .ref 465] [(466, r6)] []) (P := ¬ x1 = (-1 : Int32)) ok_X5_lay rfl q_cn (fun h7 => ?_) (fun h7 => ?_)
  · have hf := q_ip h7 hf
    refine q_blk 3 [] (c' := q_kc (t, r, m, z, N, ext, rx, L) I E 36 [some (.ref 465), some (.int x1), none, none, none, none] [] [(465, (q_up (I 465) 2 (((I 465) 2) + (1 : Int32)))), (466, r6)] []) ok_X5_lay rfl q_cn ?_
    cases hf
    exact q_krv ok_X5_lay rfl rfl (Nat.le_of_ble_eq_true rfl) (Nat.le_of_ble_eq_true rfl) ⟨rfl, q_hpe (q_pdw [465, 466] rfl rfl) (q_pdw [] rfl rfl)⟩
  · have hf := q_in h7 hf
    refine q_blk 4 [] (c' := q_kc (t, r, m, z, N, ext, rx, L) I E 36 [some (.ref 465), some (.int x1), none, none, none, none] [] [(465, (q_up (I 465) 2 (((I 465) 2) + (-1 : Int32)))), (466, r6)] []) ok_X5_lay rfl q_cn ?_
    cases hf
    exact q_krv ok_X5_lay rfl rfl (Nat.le_of_ble_eq_true rfl) (Nat.le_of_ble_eq_true rfl) ⟨rfl, q_hpe (q_pdw [465, 466] rfl rfl) (q_pdw [] rfl rfl)⟩
set_option maxHeartbeats 4000000 in
theorem ct_X2_takeOver_457 {g : q_G} {t : Nat} {r : Nat} {m : Nat} {z : Nat} {N : Nat} {ext : Nat → q_Sh} {rx : Nat → Nat → Option Nat} {L : Nat → Nat → Int64} {d : Nat} (hd : 2 ≤ d)  {I : Nat → Nat → Int32} {E : Nat → Nat → Option Nat} {x1 : Int32} {r0 : (Nat → Int32) × (Nat → Int32) × (Nat → Int32) × (Nat → Int32) × (Nat → Int32) × (Nat → Int32) × (Nat → Int32) × (Nat → Int32) × (Nat → Int32) × (Nat → Int32)} (hf : f_X2_takeOver (I 402) (I 457) (I 459) (I 460) (I 461) (I 462) (I 465) (I 466) (I 467) (I 468) (I 469) (I 471) x1 = some r0) : q_Ct g m_X2_takeOver d 0 0 [] [.ref 457, .int x1] (q_hp (t, r, m, z, N, ext, rx, L) I E) (fun o h' => o = .inl none ∧ h' = q_hp (t, r, m, z, N, ext, rx, L) (q_ws I [(457, r0.1), (459, r0.2.1), (460, r0.2.2.1), (462, r0.2.2.2.1), (465, r0.2.2.2.2.1), (466, r0.2.2.2.2.2.1), (467, r0.2.2.2.2.2.2.1), (468, r0.2.2.2.2.2.2.2.1), (469, r0.2.2.2.2.2.2.2.2.1), (471, r0.2.2.2.2.2.2.2.2.2)]) (q_ws E [])) := by
  rw [f_X2_takeOver] at hf
  refine q_Ct_of ok_X2_takeOver (Nat.le_of_ble_eq_true rfl) ?_ _ rfl rfl
  change q_J g m_X2_takeOver d 0 0 _ [] _ 0 0 (q_kc (t, r, m, z, N, ext, rx, L) I E 0 [some (.ref 457), some (.int x1), none, none] [] [] [])
  refine q_blk 3 [] (c' := q_kc (t, r, m, z, N, ext, rx, L) I E 3 [some (.ref 457), some (.int x1), none, none] [.int x1, .ref 458] [] []) ok_X2_takeOver rfl q_cn ?_
  obtain ⟨r1, hr1, hf⟩ := q_bd hf
  refine q_kV (M2 := m_X1_liesInHalf) (As := [.int x1]) (b := 458) (v2 := some (.int (q_bz r1))) ok_X2_takeOver ok_X1_liesInHalf cv_X1_liesInHalf (ct_X1_liesInHalf_458 (d := 1) (Nat.le_refl _) hr1) rfl rfl (Or.inl rfl) rfl rfl rfl rfl (Nat.le_trans (Nat.le_of_ble_eq_true rfl) hd) (Nat.le_of_ble_eq_true rfl) (Nat.le_of_ble_eq_true rfl) (Nat.le_of_ble_eq_true rfl) (fun x hx => absurd hx List.not_mem_nil) (q_nmL0 _) (q_nmS0 _) rfl (pos' := 4) (st' := [.int (q_bz r1)]) (lI' := []) (lE' := []) rfl rfl rfl rfl ?_
  refine q_blf 0 [] (a := q_kc (t, r, m, z, N, ext, rx, L) I E 11 [some (.ref 457), some (.int x1), none, none] [] [] []) (b := q_kc (t, r, m, z, N, ext, rx, L) I E 5 [some (.ref 457), some (.int x1), none, none] [] [] []) (P := (q_bz r1) = 0) ok_X2_takeOver rfl q_cn (fun h2 => ?_) (fun h2 => ?_)
  · have hf := q_ip h2 hf
    cases hf
    exact q_krv ok_X2_takeOver rfl rfl (Nat.le_of_ble_eq_true rfl) (Nat.le_of_ble_eq_true rfl) ⟨rfl, q_hpe (q_pdw [457, 459, 460, 462, 465, 466, 467, 468, 469, 471] rfl rfl) (q_pdw [] rfl rfl)⟩
  · have hf := q_in h2 hf
    refine q_blk 4 [] (c' := q_kc (t, r, m, z, N, ext, rx, L) I E 9 [some (.ref 457), some (.int x1), none, none] [.int (0 : Int32), .int x1, .ref 467] [] []) ok_X2_takeOver rfl q_cn ?_
    obtain ⟨r3, hr3, hf⟩ := q_bd hf
    refine q_kV (M2 := m_X4_add) (As := [.int x1, .int (0 : Int32)]) (b := 467) (v2 := some (.int (q_bz r3.1))) ok_X2_takeOver ok_X4_add cv_X4_add (ct_X4_add_467 (d := 1) (Nat.le_refl _) hr3) rfl rfl (Or.inl rfl) rfl rfl rfl rfl (Nat.le_trans (Nat.le_of_ble_eq_true rfl) hd) (Nat.le_of_ble_eq_true rfl) (Nat.le_of_ble_eq_true rfl) (Nat.le_of_ble_eq_true rfl) (fun x hx => absurd hx List.not_mem_nil) (q_nmL0 _) (q_nmS0 _) rfl (pos' := 10) (st' := [.int (q_bz r3.1)]) (lI' := [(467, r3.2.1), (468, r3.2.2.1), (469, r3.2.2.2)]) (lE' := []) rfl rfl (q_mgw rfl rfl) rfl ?_
    refine q_blf 0 [] (a := q_kc (t, r, m, z, N, ext, rx, L) I E 12 [some (.ref 457), some (.int x1), none, none] [] [(467, r3.2.1), (468, r3.2.2.1), (469, r3.2.2.2)] []) (b := q_kc (t, r, m, z, N, ext, rx, L) I E 11 [some (.ref 457), some (.int x1), none, none] [] [(467, r3.2.1), (468, r3.2.2.1), (469, r3.2.2.2)] []) (P := ¬ (q_bz r3.1) = 0) ok_X2_takeOver rfl q_cn (fun h4 => ?_) (fun h4 => ?_)
    · have hf := q_ip h4 hf
      refine q_blk 3 [] (c' := q_kc (t, r, m, z, N, ext, rx, L) I E 15 [some (.ref 457), some (.int x1), none, none] [.int x1, .ref 458] [(467, r3.2.1), (468, r3.2.2.1), (469, r3.2.2.2)] []) ok_X2_takeOver rfl q_cn ?_
      obtain ⟨r5, hr5, hf⟩ := q_bd hf
      refine q_kV (M2 := m_X1_size) (As := [.int x1]) (b := 458) (v2 := some (.int r5)) ok_X2_takeOver ok_X1_size cv_X1_size (ct_X1_size_458 (d := 1) (Nat.le_refl _) hr5) rfl rfl (Or.inl rfl) rfl rfl rfl rfl (Nat.le_trans (Nat.le_of_ble_eq_true rfl) hd) (Nat.le_of_ble_eq_true rfl) (Nat.le_of_ble_eq_true rfl) (Nat.le_of_ble_eq_true rfl) (fun x hx => absurd hx List.not_mem_nil) (q_nmL0 _) (q_nmS0 _) rfl (pos' := 16) (st' := [.int r5]) (lI' := [(467, r3.2.1), (468, r3.2.2.1), (469, r3.2.2.2)]) (lE' := []) rfl rfl rfl rfl ?_
      refine q_blk 4 [] (c' := q_kc (t, r, m, z, N, ext, rx, L) I E 20 [some (.ref 457), some (.int x1), some (.int r5), none] [.int x1, .ref 458] [(467, r3.2.1), (468, r3.2.2.1), (469, r3.2.2.2)] []) ok_X2_takeOver rfl q_cn ?_
      obtain ⟨r6, hr6, hf⟩ := q_bd hf
      refine q_kV (M2 := m_X1_age) (As := [.int x1]) (b := 458) (v2 := some (.int r6)) ok_X2_takeOver ok_X1_age cv_X1_age (ct_X1_age_458 (d := 1) (Nat.le_refl _) hr6) rfl rfl (Or.inl rfl) rfl rfl rfl rfl (Nat.le_trans (Nat.le_of_ble_eq_true rfl) hd) (Nat.le_of_ble_eq_true rfl) (Nat.le_of_ble_eq_true rfl) (Nat.le_of_ble_eq_true rfl) (fun x hx => absurd hx List.not_mem_nil) (q_nmL0 _) (q_nmS0 _) rfl (pos' := 21) (st' := [.int r6]) (lI' := [(467, r3.2.1), (468, r3.2.2.1), (469, r3.2.2.2)]) (lE' := []) rfl rfl rfl rfl ?_
      refine q_blf 3 [] (a := q_kc (t, r, m, z, N, ext, rx, L) I E 30 [some (.ref 457), some (.int x1), some (.int r5), none] [] [(467, r3.2.1), (468, r3.2.2.1), (469, r3.2.2.2)] []) (b := q_kc (t, r, m, z, N, ext, rx, L) I E 25 [some (.ref 457), some (.int x1), some (.int r5), none] [] [(467, r3.2.1), (468, r3.2.2.1), (469, r3.2.2.2)] []) (P := r6 < ((I 402) 2)) ok_X2_takeOver rfl q_cn (fun h7 => ?_) (fun h7 => ?_)
      · have hf := q_ip h7 hf
        refine q_blf 4 [] (a := q_kc (t, r, m, z, N, ext, rx, L) I E 46 [some (.ref 457), some (.int x1), some (.int r5), some (.int (-1 : Int32))] [] [(467, r3.2.1), (468, r3.2.2.1), (469, r3.2.2.2)] []) (b := q_kc (t, r, m, z, N, ext, rx, L) I E 35 [some (.ref 457), some (.int x1), some (.int r5), some (.int (-1 : Int32))] [] [(467, r3.2.1), (468, r3.2.2.1), (469, r3.2.2.2)] []) (P := ¬ (-1 : Int32) = (-1 : Int32)) ok_X2_takeOver rfl q_cn (fun h8 => ?_) (fun h8 => ?_)
        · have hf := q_ip h8 hf
          refine q_blk 4 [] (c' := q_kc (t, r, m, z, N, ext, rx, L) I E 50 [some (.ref 457), some (.int x1), some (.int r5), some (.int (-1 : Int32))] [.int (-1 : Int32), .int x1, .ref 458] [(467, r3.2.1), (468, r3.2.2.1), (469, r3.2.2.2)] []) ok_X2_takeOver rfl q_cn ?_
          obtain ⟨r9, hr9, hf⟩ := q_bd hf
          refine q_kV (M2 := m_X1_promoteTo) (As := [.int x1, .int (-1 : Int32)]) (b := 458) (v2 := none) ok_X2_takeOver ok_X1_promoteTo cv_X1_promoteTo (ct_X1_promoteTo_458 (d := 1) (Nat.le_refl _) hr9) rfl rfl (Or.inl rfl) rfl rfl rfl rfl (Nat.le_trans (Nat.le_of_ble_eq_true rfl) hd) (Nat.le_of_ble_eq_true rfl) (Nat.le_of_ble_eq_true rfl) (Nat.le_of_ble_eq_true rfl) (fun x hx => absurd hx List.not_mem_nil) (q_nmL0 _) (q_nmS0 _) rfl (pos' := 51) (st' := []) (lI' := [(459, r9.1), (460, r9.2), (467, r3.2.1), (468, r3.2.2.1), (469, r3.2.2.2)]) (lE' := []) rfl rfl (q_mgw rfl rfl) rfl ?_
          refine q_blk 5 [] (c' := q_kc (t, r, m, z, N, ext, rx, L) I E 56 [some (.ref 457), some (.int x1), some (.int r5), some (.int (-1 : Int32))] [.int r5, .int (-1 : Int32), .int x1, .ref 465] [(459, r9.1), (460, r9.2), (467, r3.2.1), (468, r3.2.2.1), (469, r3.2.2.2)] []) ok_X2_takeOver rfl q_cn ?_
          obtain ⟨r10, hr10, hf⟩ := q_bd hf
          refine q_kV (M2 := m_X5_lay) (As := [.int x1, .int (-1 : Int32), .int r5]) (b := 465) (v2 := none) ok_X2_takeOver ok_X5_lay cv_X5_lay (ct_X5_lay_465 (d := 1) (Nat.le_refl _) hr10) rfl rfl (Or.inl rfl) rfl rfl rfl rfl (Nat.le_trans (Nat.le_of_ble_eq_true rfl) hd) (Nat.le_of_ble_eq_true rfl) (Nat.le_of_ble_eq_true rfl) (Nat.le_of_ble_eq_true rfl) (fun x hx => absurd hx List.not_mem_nil) (q_nmL0 _) (q_nmS0 _) rfl (pos' := 57) (st' := []) (lI' := [(459, r9.1), (460, r9.2), (465, r10.1), (466, r10.2), (467, r3.2.1), (468, r3.2.2.1), (469, r3.2.2.2)]) (lE' := []) rfl rfl (q_mgw rfl rfl) rfl ?_
          refine q_blk 6 [] (c' := q_kc (t, r, m, z, N, ext, rx, L) I E 63 [some (.ref 457), some (.int x1), some (.int r5), some (.int (-1 : Int32))] [] [(457, (q_up (I 457) 13 (((I 457) 13) + (1 : Int32)))), (459, r9.1), (460, r9.2), (465, r10.1), (466, r10.2), (467, r3.2.1), (468, r3.2.2.1), (469, r3.2.2.2)] []) ok_X2_takeOver rfl q_cn ?_
          cases hf
          exact q_krv ok_X2_takeOver rfl rfl (Nat.le_of_ble_eq_true rfl) (Nat.le_of_ble_eq_true rfl) ⟨rfl, q_hpe (q_pdw [457, 459, 460, 462, 465, 466, 467, 468, 469, 471] rfl rfl) (q_pdw [] rfl rfl)⟩
        · have hf := q_in h8 hf
          refine q_blk 5 [] (c' := q_kc (t, r, m, z, N, ext, rx, L) I E 40 [some (.ref 457), some (.int x1), some (.int r5), some (.int (-1 : Int32))] [.int ((I 457) 8), .int x1, .ref 458] [(467, r3.2.1), (468, r3.2.2.1), (469, r3.2.2.2)] []) ok_X2_takeOver rfl q_cn ?_
          obtain ⟨r11, hr11, hf⟩ := q_bd hf
          refine q_kV (M2 := m_X1_copyTo) (As := [.int x1, .int ((I 457) 8)]) (b := 458) (v2 := none) ok_X2_takeOver ok_X1_copyTo cv_X1_copyTo (ct_X1_copyTo_458 (d := 1) (Nat.le_refl _) hr11) rfl rfl (Or.inl rfl) rfl rfl rfl rfl (Nat.le_trans (Nat.le_of_ble_eq_true rfl) hd) (Nat.le_of_ble_eq_true rfl) (Nat.le_of_ble_eq_true rfl) (Nat.le_of_ble_eq_true rfl) (fun x hx => absurd hx List.not_mem_nil) (q_nmL0 _) (q_nmS0 _) rfl (pos' := 41) (st' := []) (lI' := [(460, r11.1), (462, r11.2), (467, r3.2.1), (468, r3.2.2.1), (469, r3.2.2.2)]) (lE' := []) rfl rfl (q_mgw rfl rfl) rfl ?_
          refine q_blk 3 [] (c' := q_kc (t, r, m, z, N, ext, rx, L) I E 44 [some (.ref 457), some (.int x1), some (.int r5), some (.int (-1 : Int32))] [.int r5, .int x1, .ref 457] [(460, r11.1), (462, r11.2), (467, r3.2.1), (468, r3.2.2.1), (469, r3.2.2.2)] []) ok_X2_takeOver rfl q_cn ?_
          obtain ⟨r12, hr12, hf⟩ := q_bd hf
          refine q_kV (M2 := m_X2_layInRow) (As := [.int x1, .int r5]) (b := 457) (v2 := none) ok_X2_takeOver ok_X2_layInRow cv_X2_layInRow (ct_X2_layInRow_457 (d := 1) (Nat.le_refl _) hr12) rfl rfl (Or.inl rfl) rfl rfl rfl rfl (Nat.le_trans (Nat.le_of_ble_eq_true rfl) hd) (Nat.le_of_ble_eq_true rfl) (Nat.le_of_ble_eq_true rfl) (Nat.le_of_ble_eq_true rfl) (fun x hx => absurd hx List.not_mem_nil) (q_nmL0 _) (q_nmS0 _) rfl (pos' := 45) (st' := []) (lI' := [(457, r12.1), (460, r11.1), (462, r11.2), (467, r3.2.1), (468, r3.2.2.1), (469, r3.2.2.2), (471, r12.2)]) (lE' := []) rfl rfl (q_mgw rfl rfl) rfl ?_
          refine q_blk 1 [] (c' := q_kc (t, r, m, z, N, ext, rx, L) I E 63 [some (.ref 457), some (.int x1), some (.int r5), some (.int (-1 : Int32))] [] [(457, r12.1), (460, r11.1), (462, r11.2), (467, r3.2.1), (468, r3.2.2.1), (469, r3.2.2.2), (471, r12.2)] []) ok_X2_takeOver rfl q_cn ?_
          cases hf
          exact q_krv ok_X2_takeOver rfl rfl (Nat.le_of_ble_eq_true rfl) (Nat.le_of_ble_eq_true rfl) ⟨rfl, q_hpe (q_pdw [457, 459, 460, 462, 465, 466, 467, 468, 469, 471] rfl rfl) (q_pdw [] rfl rfl)⟩
      · have hf := q_in h7 hf
        refine q_blk 3 [] (c' := q_kc (t, r, m, z, N, ext, rx, L) I E 28 [some (.ref 457), some (.int x1), some (.int r5), none] [.int r5, .ref 465] [(467, r3.2.1), (468, r3.2.2.1), (469, r3.2.2.2)] []) ok_X2_takeOver rfl q_cn ?_
        obtain ⟨r13, hr13, hf⟩ := q_bd hf
        refine q_kV (M2 := m_X5_gapFor) (As := [.int r5]) (b := 465) (v2 := some (.int r13)) ok_X2_takeOver ok_X5_gapFor cv_X5_gapFor (ct_X5_gapFor_465 (d := 1) (Nat.le_refl _) hr13) rfl rfl (Or.inl rfl) rfl rfl rfl rfl (Nat.le_trans (Nat.le_of_ble_eq_true rfl) hd) (Nat.le_of_ble_eq_true rfl) (Nat.le_of_ble_eq_true rfl) (Nat.le_of_ble_eq_true rfl) (fun x hx => absurd hx List.not_mem_nil) (q_nmL0 _) (q_nmS0 _) rfl (pos' := 29) (st' := [.int r13]) (lI' := [(467, r3.2.1), (468, r3.2.2.1), (469, r3.2.2.2)]) (lE' := []) rfl rfl rfl rfl ?_
        refine q_blf 4 [] (a := q_kc (t, r, m, z, N, ext, rx, L) I E 46 [some (.ref 457), some (.int x1), some (.int r5), some (.int r13)] [] [(467, r3.2.1), (468, r3.2.2.1), (469, r3.2.2.2)] []) (b := q_kc (t, r, m, z, N, ext, rx, L) I E 35 [some (.ref 457), some (.int x1), some (.int r5), some (.int r13)] [] [(467, r3.2.1), (468, r3.2.2.1), (469, r3.2.2.2)] []) (P := ¬ r13 = (-1 : Int32)) ok_X2_takeOver rfl q_cn (fun h14 => ?_) (fun h14 => ?_)
        · have hf := q_ip h14 hf
          refine q_blk 4 [] (c' := q_kc (t, r, m, z, N, ext, rx, L) I E 50 [some (.ref 457), some (.int x1), some (.int r5), some (.int r13)] [.int r13, .int x1, .ref 458] [(467, r3.2.1), (468, r3.2.2.1), (469, r3.2.2.2)] []) ok_X2_takeOver rfl q_cn ?_
          obtain ⟨r15, hr15, hf⟩ := q_bd hf
          refine q_kV (M2 := m_X1_promoteTo) (As := [.int x1, .int r13]) (b := 458) (v2 := none) ok_X2_takeOver ok_X1_promoteTo cv_X1_promoteTo (ct_X1_promoteTo_458 (d := 1) (Nat.le_refl _) hr15) rfl rfl (Or.inl rfl) rfl rfl rfl rfl (Nat.le_trans (Nat.le_of_ble_eq_true rfl) hd) (Nat.le_of_ble_eq_true rfl) (Nat.le_of_ble_eq_true rfl) (Nat.le_of_ble_eq_true rfl) (fun x hx => absurd hx List.not_mem_nil) (q_nmL0 _) (q_nmS0 _) rfl (pos' := 51) (st' := []) (lI' := [(459, r15.1), (460, r15.2), (467, r3.2.1), (468, r3.2.2.1), (469, r3.2.2.2)]) (lE' := []) rfl rfl (q_mgw rfl rfl) rfl ?_
          refine q_blk 5 [] (c' := q_kc (t, r, m, z, N, ext, rx, L) I E 56 [some (.ref 457), some (.int x1), some (.int r5), some (.int r13)] [.int r5, .int r13, .int x1, .ref 465] [(459, r15.1), (460, r15.2), (467, r3.2.1), (468, r3.2.2.1), (469, r3.2.2.2)] []) ok_X2_takeOver rfl q_cn ?_
          obtain ⟨r16, hr16, hf⟩ := q_bd hf
          refine q_kV (M2 := m_X5_lay) (As := [.int x1, .int r13, .int r5]) (b := 465) (v2 := none) ok_X2_takeOver ok_X5_lay cv_X5_lay (ct_X5_lay_465 (d := 1) (Nat.le_refl _) hr16) rfl rfl (Or.inl rfl) rfl rfl rfl rfl (Nat.le_trans (Nat.le_of_ble_eq_true rfl) hd) (Nat.le_of_ble_eq_true rfl) (Nat.le_of_ble_eq_true rfl) (Nat.le_of_ble_eq_true rfl) (fun x hx => absurd hx List.not_mem_nil) (q_nmL0 _) (q_nmS0 _) rfl (pos' := 57) (st' := []) (lI' := [(459, r15.1), (460, r15.2), (465, r16.1), (466, r16.2), (467, r3.2.1), (468, r3.2.2.1), (469, r3.2.2.2)]) (lE' := []) rfl rfl (q_mgw rfl rfl) rfl ?_
          refine q_blk 6 [] (c' := q_kc (t, r, m, z, N, ext, rx, L) I E 63 [some (.ref 457), some (.int x1), some (.int r5), some (.int r13)] [] [(457, (q_up (I 457) 13 (((I 457) 13) + (1 : Int32)))), (459, r15.1), (460, r15.2), (465, r16.1), (466, r16.2), (467, r3.2.1), (468, r3.2.2.1), (469, r3.2.2.2)] []) ok_X2_takeOver rfl q_cn ?_
          cases hf
          exact q_krv ok_X2_takeOver rfl rfl (Nat.le_of_ble_eq_true rfl) (Nat.le_of_ble_eq_true rfl) ⟨rfl, q_hpe (q_pdw [457, 459, 460, 462, 465, 466, 467, 468, 469, 471] rfl rfl) (q_pdw [] rfl rfl)⟩
        · have hf := q_in h14 hf
          refine q_blk 5 [] (c' := q_kc (t, r, m, z, N, ext, rx, L) I E 40 [some (.ref 457), some (.int x1), some (.int r5), some (.int r13)] [.int ((I 457) 8), .int x1, .ref 458] [(467, r3.2.1), (468, r3.2.2.1), (469, r3.2.2.2)] []) ok_X2_takeOver rfl q_cn ?_
          obtain ⟨r17, hr17, hf⟩ := q_bd hf
          refine q_kV (M2 := m_X1_copyTo) (As := [.int x1, .int ((I 457) 8)]) (b := 458) (v2 := none) ok_X2_takeOver ok_X1_copyTo cv_X1_copyTo (ct_X1_copyTo_458 (d := 1) (Nat.le_refl _) hr17) rfl rfl (Or.inl rfl) rfl rfl rfl rfl (Nat.le_trans (Nat.le_of_ble_eq_true rfl) hd) (Nat.le_of_ble_eq_true rfl) (Nat.le_of_ble_eq_true rfl) (Nat.le_of_ble_eq_true rfl) (fun x hx => absurd hx List.not_mem_nil) (q_nmL0 _) (q_nmS0 _) rfl (pos' := 41) (st' := []) (lI' := [(460, r17.1), (462, r17.2), (467, r3.2.1), (468, r3.2.2.1), (469, r3.2.2.2)]) (lE' := []) rfl rfl (q_mgw rfl rfl) rfl ?_
          refine q_blk 3 [] (c' := q_kc (t, r, m, z, N, ext, rx, L) I E 44 [some (.ref 457), some (.int x1), some (.int r5), some (.int r13)] [.int r5, .int x1, .ref 457] [(460, r17.1), (462, r17.2), (467, r3.2.1), (468, r3.2.2.1), (469, r3.2.2.2)] []) ok_X2_takeOver rfl q_cn ?_
          obtain ⟨r18, hr18, hf⟩ := q_bd hf
          refine q_kV (M2 := m_X2_layInRow) (As := [.int x1, .int r5]) (b := 457) (v2 := none) ok_X2_takeOver ok_X2_layInRow cv_X2_layInRow (ct_X2_layInRow_457 (d := 1) (Nat.le_refl _) hr18) rfl rfl (Or.inl rfl) rfl rfl rfl rfl (Nat.le_trans (Nat.le_of_ble_eq_true rfl) hd) (Nat.le_of_ble_eq_true rfl) (Nat.le_of_ble_eq_true rfl) (Nat.le_of_ble_eq_true rfl) (fun x hx => absurd hx List.not_mem_nil) (q_nmL0 _) (q_nmS0 _) rfl (pos' := 45) (st' := []) (lI' := [(457, r18.1), (460, r17.1), (462, r17.2), (467, r3.2.1), (468, r3.2.2.1), (469, r3.2.2.2), (471, r18.2)]) (lE' := []) rfl rfl (q_mgw rfl rfl) rfl ?_
          refine q_blk 1 [] (c' := q_kc (t, r, m, z, N, ext, rx, L) I E 63 [some (.ref 457), some (.int x1), some (.int r5), some (.int r13)] [] [(457, r18.1), (460, r17.1), (462, r17.2), (467, r3.2.1), (468, r3.2.2.1), (469, r3.2.2.2), (471, r18.2)] []) ok_X2_takeOver rfl q_cn ?_
          cases hf
          exact q_krv ok_X2_takeOver rfl rfl (Nat.le_of_ble_eq_true rfl) (Nat.le_of_ble_eq_true rfl) ⟨rfl, q_hpe (q_pdw [457, 459, 460, 462, 465, 466, 467, 468, 469, 471] rfl rfl) (q_pdw [] rfl rfl)⟩
    · have hf := q_in h4 hf
      cases hf
      exact q_krv ok_X2_takeOver rfl rfl (Nat.le_of_ble_eq_true rfl) (Nat.le_of_ble_eq_true rfl) ⟨rfl, q_hpe (q_pdw [457, 459, 460, 462, 465, 466, 467, 468, 469, 471] rfl rfl) (q_pdw [] rfl rfl)⟩
