set_option maxHeartbeats 4000000 in
theorem ct_X2_inRow_457 {g : q_G} {t : Nat} {r : Nat} {m : Nat} {z : Nat} {N : Nat} {ext : Nat → q_Sh} {rx : Nat → Nat → Option Nat} {L : Nat → Nat → Int64} {d : Nat} (hd : 1 ≤ d)  {I : Nat → Nat → Int32} {E : Nat → Nat → Option Nat} {x1 : Int32} {r0 : Int32} (hf : f_X2_inRow (I 457) (I 471) x1 = some r0) : q_Ct g m_X2_inRow d 0 0 [] [.ref 457, .int x1] (q_hp (t, r, m, z, N, ext, rx, L) I E) (fun o h' => o = .inl (some (.int r0)) ∧ h' = q_hp (t, r, m, z, N, ext, rx, L) (q_ws I []) (q_ws E [])) := by
  rw [f_X2_inRow] at hf
  refine q_Ct_of ok_X2_inRow (Nat.le_of_ble_eq_true rfl) ?_ _ rfl rfl
  change q_J g m_X2_inRow d 0 0 _ [] _ 0 0 (q_kc (t, r, m, z, N, ext, rx, L) I E 0 [some (.ref 457), some (.int x1)] [] [] [])
  refine q_blf 1 [] (a := q_kc (t, r, m, z, N, ext, rx, L) I E 14 [some (.ref 457), some (.int x1)] [] [] []) (b := q_kc (t, r, m, z, N, ext, rx, L) I E 2 [some (.ref 457), some (.int x1)] [] [] []) (P := x1 < 0) ok_X2_inRow rfl q_cn (fun h1 => ?_) (fun h1 => ?_)
  · have hf := q_ip h1 hf
    refine q_blk 1 [] (c' := q_kc (t, r, m, z, N, ext, rx, L) I E 15 [some (.ref 457), some (.int x1)] [.int (-1 : Int32)] [] []) ok_X2_inRow rfl q_cn ?_
    cases hf
    exact q_kri ok_X2_inRow rfl rfl rfl (Nat.le_of_ble_eq_true rfl) (Nat.le_of_ble_eq_true rfl) ⟨rfl, q_hpe (q_pdw [] rfl rfl) (q_pdw [] rfl rfl)⟩
  · have hf := q_in h1 hf
    refine q_blf 3 [] (a := q_kc (t, r, m, z, N, ext, rx, L) I E 14 [some (.ref 457), some (.int x1)] [] [] []) (b := q_kc (t, r, m, z, N, ext, rx, L) I E 6 [some (.ref 457), some (.int x1)] [] [] []) (P := ((I 457) 7) ≤ x1) ok_X2_inRow rfl q_cn (fun h2 => ?_) (fun h2 => ?_)
    · have hf := q_ip h2 hf
      refine q_blk 1 [] (c' := q_kc (t, r, m, z, N, ext, rx, L) I E 15 [some (.ref 457), some (.int x1)] [.int (-1 : Int32)] [] []) ok_X2_inRow rfl q_cn ?_
      cases hf
      exact q_kri ok_X2_inRow rfl rfl rfl (Nat.le_of_ble_eq_true rfl) (Nat.le_of_ble_eq_true rfl) ⟨rfl, q_hpe (q_pdw [] rfl rfl) (q_pdw [] rfl rfl)⟩
    · have hf := q_in h2 hf
      refine q_blf 2 [] (a := q_kc (t, r, m, z, N, ext, rx, L) I E 14 [some (.ref 457), some (.int x1)] [] [] []) (b := q_kc (t, r, m, z, N, ext, rx, L) I E 9 [some (.ref 457), some (.int x1)] [] [] []) (P := (64 : Int32) ≤ x1) ok_X2_inRow rfl q_cn (fun h3 => ?_) (fun h3 => ?_)
      · have hf := q_ip h3 hf
        refine q_blk 1 [] (c' := q_kc (t, r, m, z, N, ext, rx, L) I E 15 [some (.ref 457), some (.int x1)] [.int (-1 : Int32)] [] []) ok_X2_inRow rfl q_cn ?_
        cases hf
        exact q_kri ok_X2_inRow rfl rfl rfl (Nat.le_of_ble_eq_true rfl) (Nat.le_of_ble_eq_true rfl) ⟨rfl, q_hpe (q_pdw [] rfl rfl) (q_pdw [] rfl rfl)⟩
      · have hf := q_in h3 hf
        obtain ⟨j4, hj4, hf⟩ := q_bd hf
        refine q_blk 5 [j4] (c' := q_kc (t, r, m, z, N, ext, rx, L) I E 15 [some (.ref 457), some (.int x1)] [.int ((I 471) j4)] [] []) ok_X2_inRow rfl (q_cc hj4 q_cn) ?_
        cases hf
        exact q_kri ok_X2_inRow rfl rfl rfl (Nat.le_of_ble_eq_true rfl) (Nat.le_of_ble_eq_true rfl) ⟨rfl, q_hpe (q_pdw [] rfl rfl) (q_pdw [] rfl rfl)⟩
set_option maxHeartbeats 4000000 in
theorem ct_X12_digestOfLead_400 {g : q_G} {t : Nat} {r : Nat} {m : Nat} {z : Nat} {N : Nat} {ext : Nat → q_Sh} {rx : Nat → Nat → Option Nat} {L : Nat → Nat → Int64} {d : Nat} (hd : 2 ≤ d)  {I : Nat → Nat → Int32} {E : Nat → Nat → Option Nat} {x1 : Int32} {r0 : Int32} (hf : f_X12_digestOfLead (I 459) (I 460) x1 = some r0) : q_Ct g m_X12_digestOfLead d 0 0 [] [.ref 400, .int x1] (q_hp (t, r, m, z, N, ext, rx, L) I E) (fun o h' => o = .inl (some (.int r0)) ∧ h' = q_hp (t, r, m, z, N, ext, rx, L) (q_ws I []) (q_ws E [])) := by
  rw [f_X12_digestOfLead] at hf
  refine q_Ct_of ok_X12_digestOfLead (Nat.le_of_ble_eq_true rfl) ?_ _ rfl rfl
  change q_J g m_X12_digestOfLead d 0 0 _ [] _ 0 0 (q_kc (t, r, m, z, N, ext, rx, L) I E 0 [some (.ref 400), some (.int x1), none] [] [] [])
  refine q_blf 2 [] (a := q_kc (t, r, m, z, N, ext, rx, L) I E 5 [some (.ref 400), some (.int x1), none] [] [] []) (b := q_kc (t, r, m, z, N, ext, rx, L) I E 3 [some (.ref 400), some (.int x1), none] [] [] []) (P := ¬ x1 = (-1 : Int32)) ok_X12_digestOfLead rfl q_cn (fun h1 => ?_) (fun h1 => ?_)
  · have hf := q_ip h1 hf
    refine q_blk 5 [] (c' := q_kc (t, r, m, z, N, ext, rx, L) I E 10 [some (.ref 400), some (.int x1), none] [.int x1, .ref 458, .int (1 : Int32)] [] []) ok_X12_digestOfLead rfl q_cn ?_
    obtain ⟨r2, hr2, hf⟩ := q_bd hf
    refine q_kV (M2 := m_X1_place) (As := [.int x1]) (b := 458) (v2 := some (.int r2)) ok_X12_digestOfLead ok_X1_place cv_X1_place (ct_X1_place_458 (d := 1) (Nat.le_refl _) hr2) rfl rfl (Or.inl rfl) rfl rfl rfl rfl (Nat.le_trans (Nat.le_of_ble_eq_true rfl) hd) (Nat.le_of_ble_eq_true rfl) (Nat.le_of_ble_eq_true rfl) (Nat.le_of_ble_eq_true rfl) (fun x hx => absurd hx List.not_mem_nil) (q_nmL0 _) (q_nmS0 _) rfl (pos' := 11) (st' := [.int r2, .int (1 : Int32)]) (lI' := []) (lE' := []) rfl rfl rfl rfl ?_
    refine q_blk 6 [] (c' := q_kc (t, r, m, z, N, ext, rx, L) I E 17 [some (.ref 400), some (.int x1), some (.int ((1 : Int32) + r2))] [.int x1, .ref 458] [] []) ok_X12_digestOfLead rfl q_cn ?_
    obtain ⟨r3, hr3, hf⟩ := q_bd hf
    refine q_kV (M2 := m_X1_liesInLoft) (As := [.int x1]) (b := 458) (v2 := some (.int (q_bz r3))) ok_X12_digestOfLead ok_X1_liesInLoft cv_X1_liesInLoft (ct_X1_liesInLoft_458 (d := 1) (Nat.le_refl _) hr3) rfl rfl (Or.inl rfl) rfl rfl rfl rfl (Nat.le_trans (Nat.le_of_ble_eq_true rfl) hd) (Nat.le_of_ble_eq_true rfl) (Nat.le_of_ble_eq_true rfl) (Nat.le_of_ble_eq_true rfl) (fun x hx => absurd hx List.not_mem_nil) (q_nmL0 _) (q_nmS0 _) rfl (pos' := 18) (st' := [.int (q_bz r3)]) (lI' := []) (lE' := []) rfl rfl rfl rfl ?_
    refine q_blf 0 [] (a := q_kc (t, r, m, z, N, ext, rx, L) I E 23 [some (.ref 400), some (.int x1), some (.int ((1 : Int32) + r2))] [] [] []) (b := q_kc (t, r, m, z, N, ext, rx, L) I E 19 [some (.ref 400), some (.int x1), some (.int ((1 : Int32) + r2))] [] [] []) (P := (q_bz r3) = 0) ok_X12_digestOfLead rfl q_cn (fun h4 => ?_) (fun h4 => ?_)
    · have hf := q_ip h4 hf
      refine q_blk 1 [] (c' := q_kc (t, r, m, z, N, ext, rx, L) I E 24 [some (.ref 400), some (.int x1), some (.int ((1 : Int32) + r2))] [.int ((1 : Int32) + r2)] [] []) ok_X12_digestOfLead rfl q_cn ?_
      cases hf
      exact q_kri ok_X12_digestOfLead rfl rfl rfl (Nat.le_of_ble_eq_true rfl) (Nat.le_of_ble_eq_true rfl) ⟨rfl, q_hpe (q_pdw [] rfl rfl) (q_pdw [] rfl rfl)⟩
    · have hf := q_in h4 hf
      refine q_blk 4 [] (c' := q_kc (t, r, m, z, N, ext, rx, L) I E 24 [some (.ref 400), some (.int x1), some (.int ((1 : Int32) + r2))] [.int (((1 : Int32) + r2) + (100 : Int32))] [] []) ok_X12_digestOfLead rfl q_cn ?_
      cases hf
      exact q_kri ok_X12_digestOfLead rfl rfl rfl (Nat.le_of_ble_eq_true rfl) (Nat.le_of_ble_eq_true rfl) ⟨rfl, q_hpe (q_pdw [] rfl rfl) (q_pdw [] rfl rfl)⟩
  · have hf := q_in h1 hf
    refine q_blk 1 [] (c' := q_kc (t, r, m, z, N, ext, rx, L) I E 4 [some (.ref 400), some (.int x1), none] [.int (0 : Int32)] [] []) ok_X12_digestOfLead rfl q_cn ?_
    cases hf
    exact q_kri ok_X12_digestOfLead rfl rfl rfl (Nat.le_of_ble_eq_true rfl) (Nat.le_of_ble_eq_true rfl) ⟨rfl, q_hpe (q_pdw [] rfl rfl) (q_pdw [] rfl rfl)⟩
set_option maxHeartbeats 4000000 in
theorem lp_X12_digestWithBale_L44_400 {g : q_G} {d mc ms : Nat} {h0 : q_H} {Q : (Option Value ⊕ String) → q_H → Prop} {k n : Nat} {t : Nat} {r : Nat} {m : Nat} {z : Nat} {N : Nat} {ext : Nat → q_Sh} {rx : Nat → Nat → Option Nat} {L : Nat → Nat → Int64} (hd : 3 ≤ d) (hk : k ≤ mc) (hn : n ≤ ms)  {v3 : Int32} : ∀ (fu : Nat) {I : Nat → Nat → Int32} {E : Nat → Nat → Option Nat} {v5 : Int64} {v7 : Int32} {r0 : Int64} (hf : f_X12_digestWithBale_L44 (I 459) (I 460) (I 463) (I 464) v3 fu v5 v7 = some r0) (hK0 : q_J g m_X12_digestWithBale d mc ms h0 [] Q k n (q_kc (t, r, m, z, N, ext, rx, L) I E 63 [none, none, none, none, none, some (.long r0), none, none] [] [] [])), q_J g m_X12_digestWithBale d mc ms h0 [] Q k n (44, [some (.ref 400), none, none, some (.int v3), some (.ref 458), some (.long v5), none, some (.int v7)], [], q_hp (t, r, m, z, N, ext, rx, L) I E) := by
  intro fu
  induction fu with
  | zero =>
    intro I E v5 v7 r0 hf hK0
    rw [f_X12_digestWithBale_L44] at hf
    cases hf
  | succ fu ih =>
    intro I E v5 v7 r0 hf hK0
    rw [f_X12_digestWithBale_L44] at hf
    change q_J g m_X12_digestWithBale d mc ms h0 [] Q k n (q_kc (t, r, m, z, N, ext, rx, L) I E 44 [some (.ref 400), none, none, some (.int v3), some (.ref 458), some (.long v5), none, some (.int v7)] [] [] [])
    refine q_blk 3 [] (c' := q_kc (t, r, m, z, N, ext, rx, L) I E 47 [some (.ref 400), none, none, some (.int v3), some (.ref 458), some (.long v5), none, some (.int v7)] [.int v3, .ref 458, .int v7] [] []) ok_X12_digestWithBale rfl q_cn ?_
    obtain ⟨r1, hr1, hf⟩ := q_bd hf
    refine q_kV (M2 := m_X1_ropes) (As := [.int v3]) (b := 458) (v2 := some (.int r1)) ok_X12_digestWithBale ok_X1_ropes cv_X1_ropes (ct_X1_ropes_458 (d := 1) (Nat.le_refl _) hr1) rfl rfl (Or.inl rfl) rfl rfl rfl rfl (Nat.le_trans (Nat.le_of_ble_eq_true rfl) hd) hk hn (Nat.le_of_ble_eq_true rfl) (fun x hx => absurd hx List.not_mem_nil) (q_nmL0 _) (q_nmS0 _) rfl (pos' := 48) (st' := [.int r1, .int v7]) (lI' := []) (lE' := []) rfl rfl rfl rfl ?_
    refine q_blf 0 [] (a := q_kc (t, r, m, z, N, ext, rx, L) I E 63 [some (.ref 400), none, none, some (.int v3), some (.ref 458), some (.long v5), none, some (.int v7)] [] [] []) (b := q_kc (t, r, m, z, N, ext, rx, L) I E 49 [some (.ref 400), none, none, some (.int v3), some (.ref 458), some (.long v5), none, some (.int v7)] [] [] []) (P := r1 ≤ v7) ok_X12_digestWithBale rfl q_cn (fun h2 => ?_) (fun h2 => ?_)
    · have hf := q_ip h2 hf
      refine q_less (ls' := [none, none, none, none, none, some (.long v5), none, none]) (q_sb1 (q_sb1 (q_sb1 (q_sb1 (q_sb1 (q_sb2 (q_sb1 (q_sb1 q_sb0)))))))) ?_
      cases hf
      exact q_Jpad (q_pdw [] rfl rfl) (q_pdw [] rfl rfl) hK0
    · have hf := q_in h2 hf
      refine q_blk 7 [] (c' := q_kc (t, r, m, z, N, ext, rx, L) I E 56 [some (.ref 400), none, none, some (.int v3), some (.ref 458), some (.long v5), none, some (.int v7)] [.int v7, .int v3, .ref 458, .ref 400, .long (v5 * (31 : Int64))] [] []) ok_X12_digestWithBale rfl q_cn ?_
      obtain ⟨r3, hr3, hf⟩ := q_bd hf
      refine q_kV (M2 := m_X1_lead) (As := [.int v3, .int v7]) (b := 458) (v2 := some (.int r3)) ok_X12_digestWithBale ok_X1_lead cv_X1_lead (ct_X1_lead_458 (d := 2) (Nat.le_refl _) hr3) rfl rfl (Or.inl rfl) rfl rfl rfl rfl (Nat.le_trans (Nat.le_of_ble_eq_true rfl) hd) hk hn (Nat.le_of_ble_eq_true rfl) (fun x hx => absurd hx List.not_mem_nil) (q_nmL0 _) (q_nmS0 _) rfl (pos' := 57) (st' := [.int r3, .ref 400, .long (v5 * (31 : Int64))]) (lI' := []) (lE' := []) rfl rfl rfl rfl ?_
      obtain ⟨r4, hr4, hf⟩ := q_bd hf
      refine q_kV (M2 := m_X12_digestOfLead) (As := [.int r3]) (b := 400) (v2 := some (.int r4)) ok_X12_digestWithBale ok_X12_digestOfLead cv_X12_digestOfLead (ct_X12_digestOfLead_400 (d := 2) (Nat.le_refl _) hr4) rfl rfl (Or.inl rfl) rfl rfl rfl rfl (Nat.le_trans (Nat.le_of_ble_eq_true rfl) hd) hk hn (Nat.le_of_ble_eq_true rfl) (fun x hx => absurd hx List.not_mem_nil) (q_nmL0 _) (q_nmS0 _) rfl (pos' := 58) (st' := [.int r4, .long (v5 * (31 : Int64))]) (lI' := []) (lE' := []) rfl rfl rfl rfl ?_
      refine q_blk 5 [] (c' := q_kc (t, r, m, z, N, ext, rx, L) I E 44 [some (.ref 400), none, none, some (.int v3), some (.ref 458), some (.long ((v5 * (31 : Int64)) + r4.toInt64)), none, some (.int (v7 + 1))] [] [] []) ok_X12_digestWithBale rfl q_cn ?_
      exact ih (I := q_ws I []) (E := q_ws E []) hf (q_Jmrg (q_mgw rfl rfl) (q_mgw rfl rfl) hK0)
set_option maxHeartbeats 4000000 in
theorem ct_X12_digestWithBale_400 {g : q_G} {t : Nat} {r : Nat} {m : Nat} {z : Nat} {N : Nat} {ext : Nat → q_Sh} {rx : Nat → Nat → Option Nat} {L : Nat → Nat → Int64} {d : Nat} (hd : 3 ≤ d)  {I : Nat → Nat → Int32} {E : Nat → Nat → Option Nat} {x1 : Int64} {x2 : Int32} {r0 : Int64} (hf : f_X12_digestWithBale (I 459) (I 460) (I 461) (I 462) (I 463) (I 464) x1 x2 = some r0) : q_Ct g m_X12_digestWithBale d 0 0 [] [.ref 400, .long x1, .int x2] (q_hp (t, r, m, z, N, ext, rx, L) I E) (fun o h' => o = .inl (some (.long r0)) ∧ h' = q_hp (t, r, m, z, N, ext, rx, L) (q_ws I []) (q_ws E [])) := by
  rw [f_X12_digestWithBale] at hf
  refine q_Ct_of ok_X12_digestWithBale (Nat.le_of_ble_eq_true rfl) ?_ _ rfl rfl
  change q_J g m_X12_digestWithBale d 0 0 _ [] _ 0 0 (q_kc (t, r, m, z, N, ext, rx, L) I E 0 [some (.ref 400), some (.long x1), none, some (.int x2), none, none, none, none] [] [] [])
  refine q_blk 11 [] (c' := q_kc (t, r, m, z, N, ext, rx, L) I E 11 [some (.ref 400), some (.long x1), none, some (.int x2), some (.ref 458), some (.long x1), none, none] [.int x2, .ref 458, .long (x1 * (31 : Int64))] [] []) ok_X12_digestWithBale rfl q_cn ?_
  obtain ⟨r5, hr5, hf⟩ := q_bd hf
  refine q_kV (M2 := m_X1_place) (As := [.int x2]) (b := 458) (v2 := some (.int r5)) ok_X12_digestWithBale ok_X1_place cv_X1_place (ct_X1_place_458 (d := 1) (Nat.le_refl _) hr5) rfl rfl (Or.inl rfl) rfl rfl rfl rfl (Nat.le_trans (Nat.le_of_ble_eq_true rfl) hd) (Nat.le_of_ble_eq_true rfl) (Nat.le_of_ble_eq_true rfl) (Nat.le_of_ble_eq_true rfl) (fun x hx => absurd hx List.not_mem_nil) (q_nmL0 _) (q_nmS0 _) rfl (pos' := 12) (st' := [.int r5, .long (x1 * (31 : Int64))]) (lI' := []) (lE' := []) rfl rfl rfl rfl ?_
  refine q_blk 8 [] (c' := q_kc (t, r, m, z, N, ext, rx, L) I E 20 [some (.ref 400), some (.long x1), none, some (.int x2), some (.ref 458), some (.long ((x1 * (31 : Int64)) + r5.toInt64)), none, none] [.int x2, .ref 458, .long (((x1 * (31 : Int64)) + r5.toInt64) * (31 : Int64))] [] []) ok_X12_digestWithBale rfl q_cn ?_
  obtain ⟨r6, hr6, hf⟩ := q_bd hf
  refine q_kV (M2 := m_X1_size) (As := [.int x2]) (b := 458) (v2 := some (.int r6)) ok_X12_digestWithBale ok_X1_size cv_X1_size (ct_X1_size_458 (d := 1) (Nat.le_refl _) hr6) rfl rfl (Or.inl rfl) rfl rfl rfl rfl (Nat.le_trans (Nat.le_of_ble_eq_true rfl) hd) (Nat.le_of_ble_eq_true rfl) (Nat.le_of_ble_eq_true rfl) (Nat.le_of_ble_eq_true rfl) (fun x hx => absurd hx List.not_mem_nil) (q_nmL0 _) (q_nmS0 _) rfl (pos' := 21) (st' := [.int r6, .long (((x1 * (31 : Int64)) + r5.toInt64) * (31 : Int64))]) (lI' := []) (lE' := []) rfl rfl rfl rfl ?_
  refine q_blk 8 [] (c' := q_kc (t, r, m, z, N, ext, rx, L) I E 29 [some (.ref 400), some (.long x1), none, some (.int x2), some (.ref 458), some (.long ((((x1 * (31 : Int64)) + r5.toInt64) * (31 : Int64)) + r6.toInt64)), none, none] [.int x2, .ref 458, .long (((((x1 * (31 : Int64)) + r5.toInt64) * (31 : Int64)) + r6.toInt64) * (31 : Int64))] [] []) ok_X12_digestWithBale rfl q_cn ?_
  obtain ⟨r7, hr7, hf⟩ := q_bd hf
  refine q_kV (M2 := m_X1_age) (As := [.int x2]) (b := 458) (v2 := some (.int r7)) ok_X12_digestWithBale ok_X1_age cv_X1_age (ct_X1_age_458 (d := 1) (Nat.le_refl _) hr7) rfl rfl (Or.inl rfl) rfl rfl rfl rfl (Nat.le_trans (Nat.le_of_ble_eq_true rfl) hd) (Nat.le_of_ble_eq_true rfl) (Nat.le_of_ble_eq_true rfl) (Nat.le_of_ble_eq_true rfl) (fun x hx => absurd hx List.not_mem_nil) (q_nmL0 _) (q_nmS0 _) rfl (pos' := 30) (st' := [.int r7, .long (((((x1 * (31 : Int64)) + r5.toInt64) * (31 : Int64)) + r6.toInt64) * (31 : Int64))]) (lI' := []) (lE' := []) rfl rfl rfl rfl ?_
  refine q_blk 8 [] (c' := q_kc (t, r, m, z, N, ext, rx, L) I E 38 [some (.ref 400), some (.long x1), none, some (.int x2), some (.ref 458), some (.long ((((((x1 * (31 : Int64)) + r5.toInt64) * (31 : Int64)) + r6.toInt64) * (31 : Int64)) + r7.toInt64)), none, none] [.int x2, .ref 458, .long (((((((x1 * (31 : Int64)) + r5.toInt64) * (31 : Int64)) + r6.toInt64) * (31 : Int64)) + r7.toInt64) * (31 : Int64))] [] []) ok_X12_digestWithBale rfl q_cn ?_
  obtain ⟨r8, hr8, hf⟩ := q_bd hf
  refine q_kV (M2 := m_X1_ropes) (As := [.int x2]) (b := 458) (v2 := some (.int r8)) ok_X12_digestWithBale ok_X1_ropes cv_X1_ropes (ct_X1_ropes_458 (d := 1) (Nat.le_refl _) hr8) rfl rfl (Or.inl rfl) rfl rfl rfl rfl (Nat.le_trans (Nat.le_of_ble_eq_true rfl) hd) (Nat.le_of_ble_eq_true rfl) (Nat.le_of_ble_eq_true rfl) (Nat.le_of_ble_eq_true rfl) (fun x hx => absurd hx List.not_mem_nil) (q_nmL0 _) (q_nmS0 _) rfl (pos' := 39) (st' := [.int r8, .long (((((((x1 * (31 : Int64)) + r5.toInt64) * (31 : Int64)) + r6.toInt64) * (31 : Int64)) + r7.toInt64) * (31 : Int64))]) (lI' := []) (lE' := []) rfl rfl rfl rfl ?_
  refine q_blk 5 [] (c' := q_kc (t, r, m, z, N, ext, rx, L) I E 44 [some (.ref 400), some (.long x1), none, some (.int x2), some (.ref 458), some (.long ((((((((x1 * (31 : Int64)) + r5.toInt64) * (31 : Int64)) + r6.toInt64) * (31 : Int64)) + r7.toInt64) * (31 : Int64)) + r8.toInt64)), none, some (.int (0 : Int32))] [] [] []) ok_X12_digestWithBale rfl q_cn ?_
  refine q_less (ls' := [some (.ref 400), none, none, some (.int x2), some (.ref 458), some (.long ((((((((x1 * (31 : Int64)) + r5.toInt64) * (31 : Int64)) + r6.toInt64) * (31 : Int64)) + r7.toInt64) * (31 : Int64)) + r8.toInt64)), none, some (.int (0 : Int32))]) (q_sb2 (q_sb1 (q_sb1 (q_sb2 (q_sb2 (q_sb2 (q_sb1 (q_sb2 q_sb0)))))))) ?_
  obtain ⟨r9, hr9, hf⟩ := q_bd hf
  refine lp_X12_digestWithBale_L44_400 (I := q_ws I []) (E := q_ws E []) hd (Nat.le_of_ble_eq_true rfl) (Nat.le_of_ble_eq_true rfl) 4096 hr9 ?_
  refine q_Jmrg (lI' := []) (lE' := []) (q_mgw rfl rfl) (q_mgw rfl rfl) ?_
  refine q_blk 1 [] (c' := q_kc (t, r, m, z, N, ext, rx, L) I E 64 [none, none, none, none, none, some (.long r9), none, none] [.long r9] [] []) ok_X12_digestWithBale rfl q_cn ?_
  cases hf
  exact q_krl ok_X12_digestWithBale rfl rfl (Nat.le_of_ble_eq_true rfl) (Nat.le_of_ble_eq_true rfl) ⟨rfl, q_hpe (q_pdw [] rfl rfl) (q_pdw [] rfl rfl)⟩
set_option maxHeartbeats 4000000 in
theorem lp_X12_digest_L5_400 {g : q_G} {d mc ms : Nat} {h0 : q_H} {Q : (Option Value ⊕ String) → q_H → Prop} {k n : Nat} {t : Nat} {r : Nat} {m : Nat} {z : Nat} {N : Nat} {ext : Nat → q_Sh} {rx : Nat → Nat → Option Nat} {L : Nat → Nat → Int64} (hd : 7 ≤ d) (hk : k ≤ mc) (hn : n ≤ ms)  : ∀ (fu : Nat) {I : Nat → Nat → Int32} {E : Nat → Nat → Option Nat} {v1 : Int64} {v3 : Int32} {r0 : Int64} (hf : f_X12_digest_L5 (I 457) (I 459) (I 460) (I 461) (I 462) (I 463) (I 464) (I 471) fu v1 v3 = some r0) (hK0 : q_J g m_X12_digest d mc ms h0 [] Q k n (q_kc (t, r, m, z, N, ext, rx, L) I E 20 [some (.ref 400), some (.long r0), none, none, none] [] [] [])), q_J g m_X12_digest d mc ms h0 [] Q k n (5, [some (.ref 400), some (.long v1), none, some (.int v3), none], [], q_hp (t, r, m, z, N, ext, rx, L) I E) := by
  intro fu
  induction fu with
  | zero =>
    intro I E v1 v3 r0 hf hK0
    rw [f_X12_digest_L5] at hf
    cases hf
  | succ fu ih =>
    intro I E v1 v3 r0 hf hK0
    rw [f_X12_digest_L5] at hf
    change q_J g m_X12_digest d mc ms h0 [] Q k n (q_kc (t, r, m, z, N, ext, rx, L) I E 5 [some (.ref 400), some (.long v1), none, some (.int v3), none] [] [] [])
    refine q_blf 4 [] (a := q_kc (t, r, m, z, N, ext, rx, L) I E 20 [some (.ref 400), some (.long v1), none, some (.int v3), none] [] [] []) (b := q_kc (t, r, m, z, N, ext, rx, L) I E 10 [some (.ref 400), some (.long v1), none, some (.int v3), none] [] [] []) (P := ((I 457) 7) ≤ v3) ok_X12_digest rfl q_cn (fun h1 => ?_) (fun h1 => ?_)
    · have hf := q_ip h1 hf
      refine q_less (ls' := [some (.ref 400), some (.long v1), none, none, none]) (q_sb2 (q_sb2 (q_sb1 (q_sb1 (q_sb1 q_sb0))))) ?_
      cases hf
      exact q_Jpad (q_pdw [] rfl rfl) (q_pdw [] rfl rfl) hK0
    · have hf := q_in h1 hf
      refine q_blk 5 [] (c' := q_kc (t, r, m, z, N, ext, rx, L) I E 15 [some (.ref 400), some (.long v1), none, some (.int v3), none] [.int v3, .ref 457, .long v1, .ref 400] [] []) ok_X12_digest rfl q_cn ?_
      obtain ⟨r2, hr2, hf⟩ := q_bd hf
      refine q_kV (M2 := m_X2_inRow) (As := [.int v3]) (b := 457) (v2 := some (.int r2)) ok_X12_digest ok_X2_inRow cv_X2_inRow (ct_X2_inRow_457 (d := 1) (Nat.le_refl _) hr2) rfl rfl (Or.inl rfl) rfl rfl rfl rfl (Nat.le_trans (Nat.le_of_ble_eq_true rfl) hd) hk hn (Nat.le_of_ble_eq_true rfl) (fun x hx => absurd hx List.not_mem_nil) (q_nmL0 _) (q_nmS0 _) rfl (pos' := 16) (st' := [.int r2, .long v1, .ref 400]) (lI' := []) (lE' := []) rfl rfl rfl rfl ?_
      obtain ⟨r3, hr3, hf⟩ := q_bd hf
      refine q_kV (M2 := m_X12_digestWithBale) (As := [.long v1, .int r2]) (b := 400) (v2 := some (.long r3)) ok_X12_digest ok_X12_digestWithBale cv_X12_digestWithBale (ct_X12_digestWithBale_400 (d := 3) (Nat.le_refl _) hr3) rfl rfl (Or.inl rfl) rfl rfl rfl rfl (Nat.le_trans (Nat.le_of_ble_eq_true rfl) hd) hk hn (Nat.le_of_ble_eq_true rfl) (fun x hx => absurd hx List.not_mem_nil) (q_nmL0 _) (q_nmS0 _) rfl (pos' := 17) (st' := [.long r3]) (lI' := []) (lE' := []) rfl rfl rfl rfl ?_
      refine q_blk 3 [] (c' := q_kc (t, r, m, z, N, ext, rx, L) I E 5 [some (.ref 400), some (.long r3), none, some (.int (v3 + 1)), none] [] [] []) ok_X12_digest rfl q_cn ?_
      exact ih (I := q_ws I []) (E := q_ws E []) hf (q_Jmrg (q_mgw rfl rfl) (q_mgw rfl rfl) hK0)
set_option maxHeartbeats 4000000 in
theorem lp_X12_digest_L44_400 {g : q_G} {d mc ms : Nat} {h0 : q_H} {Q : (Option Value ⊕ String) → q_H → Prop} {k n : Nat} {t : Nat} {r : Nat} {m : Nat} {z : Nat} {N : Nat} {ext : Nat → q_Sh} {rx : Nat → Nat → Option Nat} {L : Nat → Nat → Int64} (hd : 7 ≤ d) (hk : k ≤ mc) (hn : n ≤ ms)  : ∀ (fu : Nat) {I : Nat → Nat → Int32} {E : Nat → Nat → Option Nat} {v1 : Int64} {v3 : Int32} {r0 : Int64} (hf : f_X12_digest_L44 (I 402) (I 459) (I 460) (I 470) fu v1 v3 = some r0) (hK0 : q_J g m_X12_digest d mc ms h0 [] Q k n (q_kc (t, r, m, z, N, ext, rx, L) I E 63 [none, some (.long r0), none, none, none] [] [] [])), q_J g m_X12_digest d mc ms h0 [] Q k n (44, [some (.ref 400), some (.long v1), none, some (.int v3), none], [], q_hp (t, r, m, z, N, ext, rx, L) I E) := by
  intro fu
  induction fu with
  | zero =>
    intro I E v1 v3 r0 hf hK0
    rw [f_X12_digest_L44] at hf
    cases hf
  | succ fu ih =>
    intro I E v1 v3 r0 hf hK0
    rw [f_X12_digest_L44] at hf
    change q_J g m_X12_digest d mc ms h0 [] Q k n (q_kc (t, r, m, z, N, ext, rx, L) I E 44 [some (.ref 400), some (.long v1), none, some (.int v3), none] [] [] [])
    refine q_blf 4 [] (a := q_kc (t, r, m, z, N, ext, rx, L) I E 63 [some (.ref 400), some (.long v1), none, some (.int v3), none] [] [] []) (b := q_kc (t, r, m, z, N, ext, rx, L) I E 49 [some (.ref 400), some (.long v1), none, some (.int v3), none] [] [] []) (P := ((I 402) 3) ≤ v3) ok_X12_digest rfl q_cn (fun h4 => ?_) (fun h4 => ?_)
    · have hf := q_ip h4 hf
      refine q_less (ls' := [none, some (.long v1), none, none, none]) (q_sb1 (q_sb2 (q_sb1 (q_sb1 (q_sb1 q_sb0))))) ?_
      cases hf
      exact q_Jpad (q_pdw [] rfl rfl) (q_pdw [] rfl rfl) hK0
    · have hf := q_in h4 hf
      refine q_blk 7 [] (c' := q_kc (t, r, m, z, N, ext, rx, L) I E 56 [some (.ref 400), some (.long v1), none, some (.int v3), none] [.int v3, .ref 457, .ref 400, .long (v1 * (31 : Int64))] [] []) ok_X12_digest rfl q_cn ?_
      obtain ⟨r5, hr5, hf⟩ := q_bd hf
      refine q_kV (M2 := m_X2_held) (As := [.int v3]) (b := 457) (v2 := some (.int r5)) ok_X12_digest ok_X2_held cv_X2_held (ct_X2_held_457 (d := 1) (Nat.le_refl _) hr5) rfl rfl (Or.inl rfl) rfl rfl rfl rfl (Nat.le_trans (Nat.le_of_ble_eq_true rfl) hd) hk hn (Nat.le_of_ble_eq_true rfl) (fun x hx => absurd hx List.not_mem_nil) (q_nmL0 _) (q_nmS0 _) rfl (pos' := 57) (st' := [.int r5, .ref 400, .long (v1 * (31 : Int64))]) (lI' := []) (lE' := []) rfl rfl rfl rfl ?_
      obtain ⟨r6, hr6, hf⟩ := q_bd hf
      refine q_kV (M2 := m_X12_digestOfLead) (As := [.int r5]) (b := 400) (v2 := some (.int r6)) ok_X12_digest ok_X12_digestOfLead cv_X12_digestOfLead (ct_X12_digestOfLead_400 (d := 2) (Nat.le_refl _) hr6) rfl rfl (Or.inl rfl) rfl rfl rfl rfl (Nat.le_trans (Nat.le_of_ble_eq_true rfl) hd) hk hn (Nat.le_of_ble_eq_true rfl) (fun x hx => absurd hx List.not_mem_nil) (q_nmL0 _) (q_nmS0 _) rfl (pos' := 58) (st' := [.int r6, .long (v1 * (31 : Int64))]) (lI' := []) (lE' := []) rfl rfl rfl rfl ?_
      refine q_blk 5 [] (c' := q_kc (t, r, m, z, N, ext, rx, L) I E 44 [some (.ref 400), some (.long ((v1 * (31 : Int64)) + r6.toInt64)), none, some (.int (v3 + 1)), none] [] [] []) ok_X12_digest rfl q_cn ?_
      exact ih (I := q_ws I []) (E := q_ws E []) hf (q_Jmrg (q_mgw rfl rfl) (q_mgw rfl rfl) hK0)
set_option maxHeartbeats 4000000 in
theorem lp_X12_digest_L22_400 {g : q_G} {d mc ms : Nat} {h0 : q_H} {Q : (Option Value ⊕ String) → q_H → Prop} {k n : Nat} {t : Nat} {r : Nat} {m : Nat} {z : Nat} {N : Nat} {ext : Nat → q_Sh} {rx : Nat → Nat → Option Nat} {L : Nat → Nat → Int64} (hd : 7 ≤ d) (hk : k ≤ mc) (hn : n ≤ ms)  : ∀ (fu : Nat) {I : Nat → Nat → Int32} {E : Nat → Nat → Option Nat} {v1 : Int64} {v3 : Int32} {r0 : Int64} (hf : f_X12_digest_L22 (I 402) (I 459) (I 460) (I 461) (I 462) (I 463) (I 464) (I 465) (I 466) fu v1 v3 = some r0) (hK0 : q_J g m_X12_digest d mc ms h0 [] Q k n (q_kc (t, r, m, z, N, ext, rx, L) I E 42 [some (.ref 400), some (.long r0), none, none, none] [] [] [])), q_J g m_X12_digest d mc ms h0 [] Q k n (22, [some (.ref 400), some (.long v1), none, some (.int v3), none], [], q_hp (t, r, m, z, N, ext, rx, L) I E) := by
  intro fu
  induction fu with
  | zero =>
    intro I E v1 v3 r0 hf hK0
    rw [f_X12_digest_L22] at hf
    cases hf
  | succ fu ih =>
    intro I E v1 v3 r0 hf hK0
    rw [f_X12_digest_L22] at hf
    change q_J g m_X12_digest d mc ms h0 [] Q k n (q_kc (t, r, m, z, N, ext, rx, L) I E 22 [some (.ref 400), some (.long v1), none, some (.int v3), none] [] [] [])
    refine q_blf 4 [] (a := q_kc (t, r, m, z, N, ext, rx, L) I E 42 [some (.ref 400), some (.long v1), none, some (.int v3), none] [] [] []) (b := q_kc (t, r, m, z, N, ext, rx, L) I E 27 [some (.ref 400), some (.long v1), none, some (.int v3), none] [] [] []) (P := ((I 402) 1) ≤ v3) ok_X12_digest rfl q_cn (fun h7 => ?_) (fun h7 => ?_)
    · have hf := q_ip h7 hf
      refine q_less (ls' := [some (.ref 400), some (.long v1), none, none, none]) (q_sb2 (q_sb2 (q_sb1 (q_sb1 (q_sb1 q_sb0))))) ?_
      cases hf
      exact q_Jpad (q_pdw [] rfl rfl) (q_pdw [] rfl rfl) hK0
    · have hf := q_in h7 hf
      refine q_blk 3 [] (c' := q_kc (t, r, m, z, N, ext, rx, L) I E 30 [some (.ref 400), some (.long v1), none, some (.int v3), none] [.int v3, .ref 457] [] []) ok_X12_digest rfl q_cn ?_
      obtain ⟨r8, hr8, hf⟩ := q_bd hf
      refine q_kV (M2 := m_X2_loftBaleFrom) (As := [.int v3]) (b := 457) (v2 := some (.int r8)) ok_X12_digest ok_X2_loftBaleFrom cv_X2_loftBaleFrom (ct_X2_loftBaleFrom_457 (d := 2) (Nat.le_refl _) hr8) rfl rfl (Or.inl rfl) rfl rfl rfl rfl (Nat.le_trans (Nat.le_of_ble_eq_true rfl) hd) hk hn (Nat.le_of_ble_eq_true rfl) (fun x hx => absurd hx List.not_mem_nil) (q_nmL0 _) (q_nmS0 _) rfl (pos' := 31) (st' := [.int r8]) (lI' := []) (lE' := []) rfl rfl rfl rfl ?_
      refine q_blf 3 [] (a := q_kc (t, r, m, z, N, ext, rx, L) I E 40 [some (.ref 400), some (.long v1), none, some (.int v3), some (.int r8)] [] [] []) (b := q_kc (t, r, m, z, N, ext, rx, L) I E 35 [some (.ref 400), some (.long v1), none, some (.int v3), some (.int r8)] [] [] []) (P := r8 = (-1 : Int32)) ok_X12_digest rfl q_cn (fun h9 => ?_) (fun h9 => ?_)
      · have hf := q_ip h9 hf
        refine q_blk 2 [] (c' := q_kc (t, r, m, z, N, ext, rx, L) I E 22 [some (.ref 400), some (.long v1), none, some (.int (v3 + 1)), some (.int r8)] [] [] []) ok_X12_digest rfl q_cn ?_
        refine q_less (ls' := [some (.ref 400), some (.long v1), none, some (.int (v3 + 1)), none]) (q_sb2 (q_sb2 (q_sb1 (q_sb2 (q_sb1 q_sb0))))) ?_
        exact ih (I := q_ws I []) (E := q_ws E []) hf (q_Jmrg (q_mgw rfl rfl) (q_mgw rfl rfl) hK0)
      · have hf := q_in h9 hf
        refine q_blk 3 [] (c' := q_kc (t, r, m, z, N, ext, rx, L) I E 38 [some (.ref 400), some (.long v1), none, some (.int v3), some (.int r8)] [.int r8, .long v1, .ref 400] [] []) ok_X12_digest rfl q_cn ?_
        obtain ⟨r10, hr10, hf⟩ := q_bd hf
        refine q_kV (M2 := m_X12_digestWithBale) (As := [.long v1, .int r8]) (b := 400) (v2 := some (.long r10)) ok_X12_digest ok_X12_digestWithBale cv_X12_digestWithBale (ct_X12_digestWithBale_400 (d := 3) (Nat.le_refl _) hr10) rfl rfl (Or.inl rfl) rfl rfl rfl rfl (Nat.le_trans (Nat.le_of_ble_eq_true rfl) hd) hk hn (Nat.le_of_ble_eq_true rfl) (fun x hx => absurd hx List.not_mem_nil) (q_nmL0 _) (q_nmS0 _) rfl (pos' := 39) (st' := [.long r10]) (lI' := []) (lE' := []) rfl rfl rfl rfl ?_
        refine q_blk 3 [] (c' := q_kc (t, r, m, z, N, ext, rx, L) I E 22 [some (.ref 400), some (.long r10), none, some (.int (v3 + 1)), some (.int r8)] [] [] []) ok_X12_digest rfl q_cn ?_
        refine q_less (ls' := [some (.ref 400), some (.long r10), none, some (.int (v3 + 1)), none]) (q_sb2 (q_sb2 (q_sb1 (q_sb2 (q_sb1 q_sb0))))) ?_
        exact ih (I := q_ws I []) (E := q_ws E []) hf (q_Jmrg (q_mgw rfl rfl) (q_mgw rfl rfl) hK0)
set_option maxHeartbeats 4000000 in
theorem ct_X12_digest_400 {g : q_G} {t : Nat} {r : Nat} {m : Nat} {z : Nat} {N : Nat} {ext : Nat → q_Sh} {rx : Nat → Nat → Option Nat} {L : Nat → Nat → Int64} {d : Nat} (hd : 7 ≤ d)  {I : Nat → Nat → Int32} {E : Nat → Nat → Option Nat} {r0 : Int64 × (Nat → Int32) × (Nat → Int32) × (Nat → Int32)} (hf : f_X12_digest (I 402) (I 457) (I 459) (I 460) (I 461) (I 462) (I 463) (I 464) (I 465) (I 466) (I 467) (I 468) (I 469) (I 470) (I 471) = some r0) : q_Ct g m_X12_digest d 0 0 [] [.ref 400] (q_hp (t, r, m, z, N, ext, rx, L) I E) (fun o h' => o = .inl (some (.long r0.1)) ∧ h' = q_hp (t, r, m, z, N, ext, rx, L) (q_ws I [(467, r0.2.1), (468, r0.2.2.1), (469, r0.2.2.2)]) (q_ws E [])) := by
  rw [f_X12_digest] at hf
  refine q_Ct_of ok_X12_digest (Nat.le_of_ble_eq_true rfl) ?_ _ rfl rfl
  change q_J g m_X12_digest d 0 0 _ [] _ 0 0 (q_kc (t, r, m, z, N, ext, rx, L) I E 0 [some (.ref 400), none, none, none, none] [] [] [])
  refine q_blk 1 [] (c' := q_kc (t, r, m, z, N, ext, rx, L) I E 1 [some (.ref 400), none, none, none, none] [.ref 400] [] []) ok_X12_digest rfl q_cn ?_
  obtain ⟨r11, hr11, hf⟩ := q_bd hf
  refine q_kV (M2 := m_X12_digestOfCounts) (As := []) (b := 400) (v2 := some (.long r11.1)) ok_X12_digest ok_X12_digestOfCounts cv_X12_digestOfCounts (ct_X12_digestOfCounts_400 (d := 6) (Nat.le_refl _) hr11) rfl rfl (Or.inl rfl) rfl rfl rfl rfl (Nat.le_trans (Nat.le_of_ble_eq_true rfl) hd) (Nat.le_of_ble_eq_true rfl) (Nat.le_of_ble_eq_true rfl) (Nat.le_of_ble_eq_true rfl) (fun x hx => absurd hx List.not_mem_nil) (q_nmL0 _) (q_nmS0 _) rfl (pos' := 2) (st' := [.long r11.1]) (lI' := [(467, r11.2.1), (468, r11.2.2.1), (469, r11.2.2.2)]) (lE' := []) rfl rfl (q_mgw rfl rfl) rfl ?_
  refine q_blk 3 [] (c' := q_kc (t, r, m, z, N, ext, rx, L) I E 5 [some (.ref 400), some (.long r11.1), none, some (.int (0 : Int32)), none] [] [(467, r11.2.1), (468, r11.2.2.1), (469, r11.2.2.2)] []) ok_X12_digest rfl q_cn ?_
  obtain ⟨r12, hr12, hf⟩ := q_bd hf
  refine lp_X12_digest_L5_400 (I := q_ws I [(467, r11.2.1), (468, r11.2.2.1), (469, r11.2.2.2)]) (E := q_ws E []) hd (Nat.le_of_ble_eq_true rfl) (Nat.le_of_ble_eq_true rfl) 4096 hr12 ?_
  refine q_Jmrg (lI' := [(467, r11.2.1), (468, r11.2.2.1), (469, r11.2.2.2)]) (lE' := []) (q_mgw rfl rfl) (q_mgw rfl rfl) ?_
  refine q_blk 2 [] (c' := q_kc (t, r, m, z, N, ext, rx, L) I E 22 [some (.ref 400), some (.long r12), none, some (.int (0 : Int32)), none] [] [(467, r11.2.1), (468, r11.2.2.1), (469, r11.2.2.2)] []) ok_X12_digest rfl q_cn ?_
  obtain ⟨r13, hr13, hf⟩ := q_bd hf
  refine lp_X12_digest_L22_400 (I := q_ws I [(467, r11.2.1), (468, r11.2.2.1), (469, r11.2.2.2)]) (E := q_ws E []) hd (Nat.le_of_ble_eq_true rfl) (Nat.le_of_ble_eq_true rfl) 4096 hr13 ?_
  refine q_Jmrg (lI' := [(467, r11.2.1), (468, r11.2.2.1), (469, r11.2.2.2)]) (lE' := []) (q_mgw rfl rfl) (q_mgw rfl rfl) ?_
  refine q_blk 2 [] (c' := q_kc (t, r, m, z, N, ext, rx, L) I E 44 [some (.ref 400), some (.long r13), none, some (.int (0 : Int32)), none] [] [(467, r11.2.1), (468, r11.2.2.1), (469, r11.2.2.2)] []) ok_X12_digest rfl q_cn ?_
  obtain ⟨r14, hr14, hf⟩ := q_bd hf
  refine lp_X12_digest_L44_400 (I := q_ws I [(467, r11.2.1), (468, r11.2.2.1), (469, r11.2.2.2)]) (E := q_ws E []) hd (Nat.le_of_ble_eq_true rfl) (Nat.le_of_ble_eq_true rfl) 4096 hr14 ?_
  refine q_Jmrg (lI' := [(467, r11.2.1), (468, r11.2.2.1), (469, r11.2.2.2)]) (lE' := []) (q_mgw rfl rfl) (q_mgw rfl rfl) ?_
  refine q_blk 1 [] (c' := q_kc (t, r, m, z, N, ext, rx, L) I E 64 [none, some (.long r14), none, none, none] [.long r14] [(467, r11.2.1), (468, r11.2.2.1), (469, r11.2.2.2)] []) ok_X12_digest rfl q_cn ?_
  cases hf
  exact q_krl ok_X12_digest rfl rfl (Nat.le_of_ble_eq_true rfl) (Nat.le_of_ble_eq_true rfl) ⟨rfl, q_hpe (q_pdw [467, 468, 469] rfl rfl) (q_pdw [] rfl rfl)⟩
set_option maxHeartbeats 4000000 in
theorem ct_X11_at_452 {g : q_G} {t : Nat} {r : Nat} {m : Nat} {z : Nat} {N : Nat} {ext : Nat → q_Sh} {rx : Nat → Nat → Option Nat} {L : Nat → Nat → Int64} {d : Nat} (hd : 1 ≤ d)  {I : Nat → Nat → Int32} {E : Nat → Nat → Option Nat} {x1 : Int32} {r0 : Int32} (hf : f_X11_at (I 401) (I 452) x1 = some r0) : q_Ct g m_X11_at d 0 0 [] [.ref 452, .int x1] (q_hp (t, r, m, z, N, ext, rx, L) I E) (fun o h' => o = .inl (some (.int r0)) ∧ h' = q_hp (t, r, m, z, N, ext, rx, L) (q_ws I []) (q_ws E [])) := by
  rw [f_X11_at] at hf
  refine q_Ct_of ok_X11_at (Nat.le_of_ble_eq_true rfl) ?_ _ rfl rfl
  change q_J g m_X11_at d 0 0 _ [] _ 0 0 (q_kc (t, r, m, z, N, ext, rx, L) I E 0 [some (.ref 452), some (.int x1)] [] [] [])
  refine q_blf 1 [] (a := q_kc (t, r, m, z, N, ext, rx, L) I E 14 [some (.ref 452), some (.int x1)] [] [] []) (b := q_kc (t, r, m, z, N, ext, rx, L) I E 2 [some (.ref 452), some (.int x1)] [] [] []) (P := x1 < 0) ok_X11_at rfl q_cn (fun h1 => ?_) (fun h1 => ?_)
  · have hf := q_ip h1 hf
    refine q_blk 1 [] (c' := q_kc (t, r, m, z, N, ext, rx, L) I E 15 [some (.ref 452), some (.int x1)] [.int (0 : Int32)] [] []) ok_X11_at rfl q_cn ?_
    cases hf
    exact q_kri ok_X11_at rfl rfl rfl (Nat.le_of_ble_eq_true rfl) (Nat.le_of_ble_eq_true rfl) ⟨rfl, q_hpe (q_pdw [] rfl rfl) (q_pdw [] rfl rfl)⟩
  · have hf := q_in h1 hf
    refine q_blf 3 [] (a := q_kc (t, r, m, z, N, ext, rx, L) I E 14 [some (.ref 452), some (.int x1)] [] [] []) (b := q_kc (t, r, m, z, N, ext, rx, L) I E 6 [some (.ref 452), some (.int x1)] [] [] []) (P := ((I 452) 5) ≤ x1) ok_X11_at rfl q_cn (fun h2 => ?_) (fun h2 => ?_)
    · have hf := q_ip h2 hf
      refine q_blk 1 [] (c' := q_kc (t, r, m, z, N, ext, rx, L) I E 15 [some (.ref 452), some (.int x1)] [.int (0 : Int32)] [] []) ok_X11_at rfl q_cn ?_
      cases hf
      exact q_kri ok_X11_at rfl rfl rfl (Nat.le_of_ble_eq_true rfl) (Nat.le_of_ble_eq_true rfl) ⟨rfl, q_hpe (q_pdw [] rfl rfl) (q_pdw [] rfl rfl)⟩
    · have hf := q_in h2 hf
      refine q_blf 2 [] (a := q_kc (t, r, m, z, N, ext, rx, L) I E 14 [some (.ref 452), some (.int x1)] [] [] []) (b := q_kc (t, r, m, z, N, ext, rx, L) I E 9 [some (.ref 452), some (.int x1)] [] [] []) (P := (2000 : Int32) ≤ x1) ok_X11_at rfl q_cn (fun h3 => ?_) (fun h3 => ?_)
      · have hf := q_ip h3 hf
        refine q_blk 1 [] (c' := q_kc (t, r, m, z, N, ext, rx, L) I E 15 [some (.ref 452), some (.int x1)] [.int (0 : Int32)] [] []) ok_X11_at rfl q_cn ?_
        cases hf
        exact q_kri ok_X11_at rfl rfl rfl (Nat.le_of_ble_eq_true rfl) (Nat.le_of_ble_eq_true rfl) ⟨rfl, q_hpe (q_pdw [] rfl rfl) (q_pdw [] rfl rfl)⟩
      · have hf := q_in h3 hf
        obtain ⟨j4, hj4, hf⟩ := q_bd hf
        refine q_blk 5 [j4] (c' := q_kc (t, r, m, z, N, ext, rx, L) I E 15 [some (.ref 452), some (.int x1)] [.int ((I 401) j4)] [] []) ok_X11_at rfl (q_cc hj4 q_cn) ?_
        cases hf
        exact q_kri ok_X11_at rfl rfl rfl (Nat.le_of_ble_eq_true rfl) (Nat.le_of_ble_eq_true rfl) ⟨rfl, q_hpe (q_pdw [] rfl rfl) (q_pdw [] rfl rfl)⟩
set_option maxHeartbeats 4000000 in
theorem lp_X11_behindBlanks_L2_452 {g : q_G} {d mc ms : Nat} {h0 : q_H} {Q : (Option Value ⊕ String) → q_H → Prop} {k n : Nat} {t : Nat} {r : Nat} {m : Nat} {z : Nat} {N : Nat} {ext : Nat → q_Sh} {rx : Nat → Nat → Option Nat} {L : Nat → Nat → Int64} (hd : 2 ≤ d) (hk : k ≤ mc) (hn : n ≤ ms)  : ∀ (fu : Nat) {I : Nat → Nat → Int32} {E : Nat → Nat → Option Nat} {v2 : Int32} {r0 : Int32} (hf : f_X11_behindBlanks_L2 (I 401) (I 452) fu v2 = some r0) (hK0 : q_J g m_X11_behindBlanks d mc ms h0 [] Q k n (q_kc (t, r, m, z, N, ext, rx, L) I E 18 [none, none, some (.int r0)] [] [] [])), q_J g m_X11_behindBlanks d mc ms h0 [] Q k n (2, [some (.ref 452), none, some (.int v2)], [], q_hp (t, r, m, z, N, ext, rx, L) I E) := by
  intro fu
  induction fu with
  | zero =>
    intro I E v2 r0 hf hK0
    rw [f_X11_behindBlanks_L2] at hf
    cases hf
  | succ fu ih =>
    intro I E v2 r0 hf hK0
    rw [f_X11_behindBlanks_L2] at hf
    change q_J g m_X11_behindBlanks d mc ms h0 [] Q k n (q_kc (t, r, m, z, N, ext, rx, L) I E 2 [some (.ref 452), none, some (.int v2)] [] [] [])
    refine q_blf 3 [] (a := q_kc (t, r, m, z, N, ext, rx, L) I E 18 [some (.ref 452), none, some (.int v2)] [] [] []) (b := q_kc (t, r, m, z, N, ext, rx, L) I E 6 [some (.ref 452), none, some (.int v2)] [] [] []) (P := ((I 452) 5) ≤ v2) ok_X11_behindBlanks rfl q_cn (fun h1 => ?_) (fun h1 => ?_)
    · have hf := q_ip h1 hf
      refine q_less (ls' := [none, none, some (.int v2)]) (q_sb1 (q_sb1 (q_sb2 q_sb0))) ?_
      cases hf
      exact q_Jpad (q_pdw [] rfl rfl) (q_pdw [] rfl rfl) hK0
    · have hf := q_in h1 hf
      refine q_blk 2 [] (c' := q_kc (t, r, m, z, N, ext, rx, L) I E 8 [some (.ref 452), none, some (.int v2)] [.int v2, .ref 452] [] []) ok_X11_behindBlanks rfl q_cn ?_
      obtain ⟨r2, hr2, hf⟩ := q_bd hf
      refine q_kV (M2 := m_X11_at) (As := [.int v2]) (b := 452) (v2 := some (.int r2)) ok_X11_behindBlanks ok_X11_at cv_X11_at (ct_X11_at_452 (d := 1) (Nat.le_refl _) hr2) rfl rfl (Or.inl rfl) rfl rfl rfl rfl (Nat.le_trans (Nat.le_of_ble_eq_true rfl) hd) hk hn (Nat.le_of_ble_eq_true rfl) (fun x hx => absurd hx List.not_mem_nil) (q_nmL0 _) (q_nmS0 _) rfl (pos' := 9) (st' := [.int r2]) (lI' := []) (lE' := []) rfl rfl rfl rfl ?_
      refine q_blf 1 [] (a := q_kc (t, r, m, z, N, ext, rx, L) I E 16 [some (.ref 452), none, some (.int v2)] [] [] []) (b := q_kc (t, r, m, z, N, ext, rx, L) I E 11 [some (.ref 452), none, some (.int v2)] [] [] []) (P := r2 = (32 : Int32)) ok_X11_behindBlanks rfl q_cn (fun h3 => ?_) (fun h3 => ?_)
      · have hf := q_ip h3 hf
        refine q_blk 2 [] (c' := q_kc (t, r, m, z, N, ext, rx, L) I E 2 [some (.ref 452), none, some (.int (v2 + 1))] [] [] []) ok_X11_behindBlanks rfl q_cn ?_
        exact ih (I := q_ws I []) (E := q_ws E []) hf (q_Jmrg (q_mgw rfl rfl) (q_mgw rfl rfl) hK0)
      · have hf := q_in h3 hf
        refine q_blk 2 [] (c' := q_kc (t, r, m, z, N, ext, rx, L) I E 13 [some (.ref 452), none, some (.int v2)] [.int v2, .ref 452] [] []) ok_X11_behindBlanks rfl q_cn ?_
        obtain ⟨r4, hr4, hf⟩ := q_bd hf
        refine q_kV (M2 := m_X11_at) (As := [.int v2]) (b := 452) (v2 := some (.int r4)) ok_X11_behindBlanks ok_X11_at cv_X11_at (ct_X11_at_452 (d := 1) (Nat.le_refl _) hr4) rfl rfl (Or.inl rfl) rfl rfl rfl rfl (Nat.le_trans (Nat.le_of_ble_eq_true rfl) hd) hk hn (Nat.le_of_ble_eq_true rfl) (fun x hx => absurd hx List.not_mem_nil) (q_nmL0 _) (q_nmS0 _) rfl (pos' := 14) (st' := [.int r4]) (lI' := []) (lE' := []) rfl rfl rfl rfl ?_
        refine q_blf 1 [] (a := q_kc (t, r, m, z, N, ext, rx, L) I E 18 [some (.ref 452), none, some (.int v2)] [] [] []) (b := q_kc (t, r, m, z, N, ext, rx, L) I E 16 [some (.ref 452), none, some (.int v2)] [] [] []) (P := ¬ r4 = (10 : Int32)) ok_X11_behindBlanks rfl q_cn (fun h5 => ?_) (fun h5 => ?_)
        · have hf := q_ip h5 hf
          refine q_less (ls' := [none, none, some (.int v2)]) (q_sb1 (q_sb1 (q_sb2 q_sb0))) ?_
          cases hf
          exact q_Jpad (q_pdw [] rfl rfl) (q_pdw [] rfl rfl) hK0
        · have hf := q_in h5 hf
          refine q_blk 2 [] (c' := q_kc (t, r, m, z, N, ext, rx, L) I E 2 [some (.ref 452), none, some (.int (v2 + 1))] [] [] []) ok_X11_behindBlanks rfl q_cn ?_
          exact ih (I := q_ws I []) (E := q_ws E []) hf (q_Jmrg (q_mgw rfl rfl) (q_mgw rfl rfl) hK0)
set_option maxHeartbeats 4000000 in
theorem ct_X11_behindBlanks_452 {g : q_G} {t : Nat} {r : Nat} {m : Nat} {z : Nat} {N : Nat} {ext : Nat → q_Sh} {rx : Nat → Nat → Option Nat} {L : Nat → Nat → Int64} {d : Nat} (hd : 2 ≤ d)  {I : Nat → Nat → Int32} {E : Nat → Nat → Option Nat} {x1 : Int32} {r0 : Int32} (hf : f_X11_behindBlanks (I 401) (I 452) x1 = some r0) : q_Ct g m_X11_behindBlanks d 0 0 [] [.ref 452, .int x1] (q_hp (t, r, m, z, N, ext, rx, L) I E) (fun o h' => o = .inl (some (.int r0)) ∧ h' = q_hp (t, r, m, z, N, ext, rx, L) (q_ws I []) (q_ws E [])) := by
  rw [f_X11_behindBlanks] at hf
  refine q_Ct_of ok_X11_behindBlanks (Nat.le_of_ble_eq_true rfl) ?_ _ rfl rfl
  change q_J g m_X11_behindBlanks d 0 0 _ [] _ 0 0 (q_kc (t, r, m, z, N, ext, rx, L) I E 0 [some (.ref 452), some (.int x1), none] [] [] [])
  refine q_blk 2 [] (c' := q_kc (t, r, m, z, N, ext, rx, L) I E 2 [some (.ref 452), some (.int x1), some (.int x1)] [] [] []) ok_X11_behindBlanks rfl q_cn ?_
  refine q_less (ls' := [some (.ref 452), none, some (.int x1)]) (q_sb2 (q_sb1 (q_sb2 q_sb0))) ?_
  obtain ⟨r6, hr6, hf⟩ := q_bd hf
  refine lp_X11_behindBlanks_L2_452 (I := q_ws I []) (E := q_ws E []) hd (Nat.le_of_ble_eq_true rfl) (Nat.le_of_ble_eq_true rfl) 4096 hr6 ?_
  refine q_Jmrg (lI' := []) (lE' := []) (q_mgw rfl rfl) (q_mgw rfl rfl) ?_
  refine q_blk 1 [] (c' := q_kc (t, r, m, z, N, ext, rx, L) I E 19 [none, none, some (.int r6)] [.int r6] [] []) ok_X11_behindBlanks rfl q_cn ?_
  cases hf
  exact q_kri ok_X11_behindBlanks rfl rfl rfl (Nat.le_of_ble_eq_true rfl) (Nat.le_of_ble_eq_true rfl) ⟨rfl, q_hpe (q_pdw [] rfl rfl) (q_pdw [] rfl rfl)⟩
set_option maxHeartbeats 4000000 in
theorem ct_X11_isLetter {g : q_G} {t : Nat} {r : Nat} {m : Nat} {z : Nat} {N : Nat} {ext : Nat → q_Sh} {rx : Nat → Nat → Option Nat} {L : Nat → Nat → Int64} {d : Nat} (hd : 1 ≤ d)  {I : Nat → Nat → Int32} {E : Nat → Nat → Option Nat} {x0 : Int32} {r0 : Bool} (hf : f_X11_isLetter x0 = some r0) : q_Ct g m_X11_isLetter d 0 0 [] [.int x0] (q_hp (t, r, m, z, N, ext, rx, L) I E) (fun o h' => o = .inl (some (.int (q_bz r0))) ∧ h' = q_hp (t, r, m, z, N, ext, rx, L) (q_ws I []) (q_ws E [])) := by
  rw [f_X11_isLetter] at hf
  refine q_Ct_of ok_X11_isLetter (Nat.le_of_ble_eq_true rfl) ?_ _ rfl rfl
  change q_J g m_X11_isLetter d 0 0 _ [] _ 0 0 (q_kc (t, r, m, z, N, ext, rx, L) I E 0 [some (.int x0)] [] [] [])
  refine q_blf 2 [] (a := q_kc (t, r, m, z, N, ext, rx, L) I E 8 [some (.int x0)] [] [] []) (b := q_kc (t, r, m, z, N, ext, rx, L) I E 3 [some (.int x0)] [] [] []) (P := x0 < (97 : Int32)) ok_X11_isLetter rfl q_cn (fun h1 => ?_) (fun h1 => ?_)
  · have hf := q_ip h1 hf
    refine q_blk 1 [] (c' := q_kc (t, r, m, z, N, ext, rx, L) I E 9 [some (.int x0)] [.int (0 : Int32)] [] []) ok_X11_isLetter rfl q_cn ?_
    cases hf
    exact q_kri ok_X11_isLetter rfl rfl rfl (Nat.le_of_ble_eq_true rfl) (Nat.le_of_ble_eq_true rfl) ⟨rfl, q_hpe (q_pdw [] rfl rfl) (q_pdw [] rfl rfl)⟩
  · have hf := q_in h1 hf
    refine q_blf 2 [] (a := q_kc (t, r, m, z, N, ext, rx, L) I E 8 [some (.int x0)] [] [] []) (b := q_kc (t, r, m, z, N, ext, rx, L) I E 6 [some (.int x0)] [] [] []) (P := (122 : Int32) < x0) ok_X11_isLetter rfl q_cn (fun h2 => ?_) (fun h2 => ?_)
    · have hf := q_ip h2 hf
      refine q_blk 1 [] (c' := q_kc (t, r, m, z, N, ext, rx, L) I E 9 [some (.int x0)] [.int (0 : Int32)] [] []) ok_X11_isLetter rfl q_cn ?_
      cases hf
      exact q_kri ok_X11_isLetter rfl rfl rfl (Nat.le_of_ble_eq_true rfl) (Nat.le_of_ble_eq_true rfl) ⟨rfl, q_hpe (q_pdw [] rfl rfl) (q_pdw [] rfl rfl)⟩
    · have hf := q_in h2 hf
      refine q_blk 2 [] (c' := q_kc (t, r, m, z, N, ext, rx, L) I E 9 [some (.int x0)] [.int (1 : Int32)] [] []) ok_X11_isLetter rfl q_cn ?_
      cases hf
      exact q_kri ok_X11_isLetter rfl rfl rfl (Nat.le_of_ble_eq_true rfl) (Nat.le_of_ble_eq_true rfl) ⟨rfl, q_hpe (q_pdw [] rfl rfl) (q_pdw [] rfl rfl)⟩
set_option maxHeartbeats 4000000 in
theorem ct_X11_isDigit {g : q_G} {t : Nat} {r : Nat} {m : Nat} {z : Nat} {N : Nat} {ext : Nat → q_Sh} {rx : Nat → Nat → Option Nat} {L : Nat → Nat → Int64} {d : Nat} (hd : 1 ≤ d)  {I : Nat → Nat → Int32} {E : Nat → Nat → Option Nat} {x0 : Int32} {r0 : Bool} (hf : f_X11_isDigit x0 = some r0) : q_Ct g m_X11_isDigit d 0 0 [] [.int x0] (q_hp (t, r, m, z, N, ext, rx, L) I E) (fun o h' => o = .inl (some (.int (q_bz r0))) ∧ h' = q_hp (t, r, m, z, N, ext, rx, L) (q_ws I []) (q_ws E [])) := by
  rw [f_X11_isDigit] at hf
  refine q_Ct_of ok_X11_isDigit (Nat.le_of_ble_eq_true rfl) ?_ _ rfl rfl
  change q_J g m_X11_isDigit d 0 0 _ [] _ 0 0 (q_kc (t, r, m, z, N, ext, rx, L) I E 0 [some (.int x0)] [] [] [])
  refine q_blf 2 [] (a := q_kc (t, r, m, z, N, ext, rx, L) I E 8 [some (.int x0)] [] [] []) (b := q_kc (t, r, m, z, N, ext, rx, L) I E 3 [some (.int x0)] [] [] []) (P := x0 < (48 : Int32)) ok_X11_isDigit rfl q_cn (fun h1 => ?_) (fun h1 => ?_)
  · have hf := q_ip h1 hf
    refine q_blk 1 [] (c' := q_kc (t, r, m, z, N, ext, rx, L) I E 9 [some (.int x0)] [.int (0 : Int32)] [] []) ok_X11_isDigit rfl q_cn ?_
    cases hf
    exact q_kri ok_X11_isDigit rfl rfl rfl (Nat.le_of_ble_eq_true rfl) (Nat.le_of_ble_eq_true rfl) ⟨rfl, q_hpe (q_pdw [] rfl rfl) (q_pdw [] rfl rfl)⟩
  · have hf := q_in h1 hf
    refine q_blf 2 [] (a := q_kc (t, r, m, z, N, ext, rx, L) I E 8 [some (.int x0)] [] [] []) (b := q_kc (t, r, m, z, N, ext, rx, L) I E 6 [some (.int x0)] [] [] []) (P := (57 : Int32) < x0) ok_X11_isDigit rfl q_cn (fun h2 => ?_) (fun h2 => ?_)
    · have hf := q_ip h2 hf
      refine q_blk 1 [] (c' := q_kc (t, r, m, z, N, ext, rx, L) I E 9 [some (.int x0)] [.int (0 : Int32)] [] []) ok_X11_isDigit rfl q_cn ?_
      cases hf
      exact q_kri ok_X11_isDigit rfl rfl rfl (Nat.le_of_ble_eq_true rfl) (Nat.le_of_ble_eq_true rfl) ⟨rfl, q_hpe (q_pdw [] rfl rfl) (q_pdw [] rfl rfl)⟩
    · have hf := q_in h2 hf
      refine q_blk 2 [] (c' := q_kc (t, r, m, z, N, ext, rx, L) I E 9 [some (.int x0)] [.int (1 : Int32)] [] []) ok_X11_isDigit rfl q_cn ?_
      cases hf
      exact q_kri ok_X11_isDigit rfl rfl rfl (Nat.le_of_ble_eq_true rfl) (Nat.le_of_ble_eq_true rfl) ⟨rfl, q_hpe (q_pdw [] rfl rfl) (q_pdw [] rfl rfl)⟩
set_option maxHeartbeats 4000000 in
theorem lp_X11_wordLength_L2_452 {g : q_G} {d mc ms : Nat} {h0 : q_H} {Q : (Option Value ⊕ String) → q_H → Prop} {k n : Nat} {t : Nat} {r : Nat} {m : Nat} {z : Nat} {N : Nat} {ext : Nat → q_Sh} {rx : Nat → Nat → Option Nat} {L : Nat → Nat → Int64} (hd : 2 ≤ d) (hk : k ≤ mc) (hn : n ≤ ms)  {v1 : Int32} : ∀ (fu : Nat) {I : Nat → Nat → Int32} {E : Nat → Nat → Option Nat} {v2 : Int32} {r0 : Int32} (hf : f_X11_wordLength_L2 (I 401) (I 452) fu v2 = some r0) (hK0 : q_J g m_X11_wordLength d mc ms h0 [] Q k n (q_kc (t, r, m, z, N, ext, rx, L) I E 18 [none, some (.int v1), some (.int r0)] [] [] [])), q_J g m_X11_wordLength d mc ms h0 [] Q k n (2, [some (.ref 452), some (.int v1), some (.int v2)], [], q_hp (t, r, m, z, N, ext, rx, L) I E) := by
  intro fu
  induction fu with
  | zero =>
    intro I E v2 r0 hf hK0
    rw [f_X11_wordLength_L2] at hf
    cases hf
  | succ fu ih =>
    intro I E v2 r0 hf hK0
    rw [f_X11_wordLength_L2] at hf
    change q_J g m_X11_wordLength d mc ms h0 [] Q k n (q_kc (t, r, m, z, N, ext, rx, L) I E 2 [some (.ref 452), some (.int v1), some (.int v2)] [] [] [])
    refine q_blf 3 [] (a := q_kc (t, r, m, z, N, ext, rx, L) I E 18 [some (.ref 452), some (.int v1), some (.int v2)] [] [] []) (b := q_kc (t, r, m, z, N, ext, rx, L) I E 6 [some (.ref 452), some (.int v1), some (.int v2)] [] [] []) (P := ((I 452) 5) ≤ v2) ok_X11_wordLength rfl q_cn (fun h1 => ?_) (fun h1 => ?_)
    · have hf := q_ip h1 hf
      refine q_less (ls' := [none, some (.int v1), some (.int v2)]) (q_sb1 (q_sb2 (q_sb2 q_sb0))) ?_
      cases hf
      exact q_Jpad (q_pdw [] rfl rfl) (q_pdw [] rfl rfl) hK0
    · have hf := q_in h1 hf
      refine q_blk 2 [] (c' := q_kc (t, r, m, z, N, ext, rx, L) I E 8 [some (.ref 452), some (.int v1), some (.int v2)] [.int v2, .ref 452] [] []) ok_X11_wordLength rfl q_cn ?_
      obtain ⟨r2, hr2, hf⟩ := q_bd hf
      refine q_kV (M2 := m_X11_at) (As := [.int v2]) (b := 452) (v2 := some (.int r2)) ok_X11_wordLength ok_X11_at cv_X11_at (ct_X11_at_452 (d := 1) (Nat.le_refl _) hr2) rfl rfl (Or.inl rfl) rfl rfl rfl rfl (Nat.le_trans (Nat.le_of_ble_eq_true rfl) hd) hk hn (Nat.le_of_ble_eq_true rfl) (fun x hx => absurd hx List.not_mem_nil) (q_nmL0 _) (q_nmS0 _) rfl (pos' := 9) (st' := [.int r2]) (lI' := []) (lE' := []) rfl rfl rfl rfl ?_
      obtain ⟨r3, hr3, hf⟩ := q_bd hf
      refine q_kS (M2 := m_X11_isLetter) (As := [.int r2]) (v2 := some (.int (q_bz r3))) ok_X11_wordLength ok_X11_isLetter cs_X11_isLetter (ct_X11_isLetter (d := 1) (Nat.le_refl _) hr3) rfl rfl (Or.inl rfl) (Nat.le_trans (Nat.le_of_ble_eq_true rfl) hd) hk hn (Nat.le_of_ble_eq_true rfl) (fun x hx => absurd hx List.not_mem_nil) (q_nmL0 _) (q_nmS0 _) rfl (pos' := 10) (st' := [.int (q_bz r3)]) (lI' := []) (lE' := []) rfl rfl rfl rfl ?_
      refine q_blf 0 [] (a := q_kc (t, r, m, z, N, ext, rx, L) I E 16 [some (.ref 452), some (.int v1), some (.int v2)] [] [] []) (b := q_kc (t, r, m, z, N, ext, rx, L) I E 11 [some (.ref 452), some (.int v1), some (.int v2)] [] [] []) (P := ¬ (q_bz r3) = 0) ok_X11_wordLength rfl q_cn (fun h4 => ?_) (fun h4 => ?_)
      · have hf := q_ip h4 hf
        refine q_blk 2 [] (c' := q_kc (t, r, m, z, N, ext, rx, L) I E 2 [some (.ref 452), some (.int v1), some (.int (v2 + 1))] [] [] []) ok_X11_wordLength rfl q_cn ?_
        exact ih (I := q_ws I []) (E := q_ws E []) hf (q_Jmrg (q_mgw rfl rfl) (q_mgw rfl rfl) hK0)
      · have hf := q_in h4 hf
        refine q_blk 2 [] (c' := q_kc (t, r, m, z, N, ext, rx, L) I E 13 [some (.ref 452), some (.int v1), some (.int v2)] [.int v2, .ref 452] [] []) ok_X11_wordLength rfl q_cn ?_
        obtain ⟨r5, hr5, hf⟩ := q_bd hf
        refine q_kV (M2 := m_X11_at) (As := [.int v2]) (b := 452) (v2 := some (.int r5)) ok_X11_wordLength ok_X11_at cv_X11_at (ct_X11_at_452 (d := 1) (Nat.le_refl _) hr5) rfl rfl (Or.inl rfl) rfl rfl rfl rfl (Nat.le_trans (Nat.le_of_ble_eq_true rfl) hd) hk hn (Nat.le_of_ble_eq_true rfl) (fun x hx => absurd hx List.not_mem_nil) (q_nmL0 _) (q_nmS0 _) rfl (pos' := 14) (st' := [.int r5]) (lI' := []) (lE' := []) rfl rfl rfl rfl ?_
        obtain ⟨r6, hr6, hf⟩ := q_bd hf
        refine q_kS (M2 := m_X11_isDigit) (As := [.int r5]) (v2 := some (.int (q_bz r6))) ok_X11_wordLength ok_X11_isDigit cs_X11_isDigit (ct_X11_isDigit (d := 1) (Nat.le_refl _) hr6) rfl rfl (Or.inl rfl) (Nat.le_trans (Nat.le_of_ble_eq_true rfl) hd) hk hn (Nat.le_of_ble_eq_true rfl) (fun x hx => absurd hx List.not_mem_nil) (q_nmL0 _) (q_nmS0 _) rfl (pos' := 15) (st' := [.int (q_bz r6)]) (lI' := []) (lE' := []) rfl rfl rfl rfl ?_
        refine q_blf 0 [] (a := q_kc (t, r, m, z, N, ext, rx, L) I E 18 [some (.ref 452), some (.int v1), some (.int v2)] [] [] []) (b := q_kc (t, r, m, z, N, ext, rx, L) I E 16 [some (.ref 452), some (.int v1), some (.int v2)] [] [] []) (P := (q_bz r6) = 0) ok_X11_wordLength rfl q_cn (fun h7 => ?_) (fun h7 => ?_)
        · have hf := q_ip h7 hf
          refine q_less (ls' := [none, some (.int v1), some (.int v2)]) (q_sb1 (q_sb2 (q_sb2 q_sb0))) ?_
          cases hf
          exact q_Jpad (q_pdw [] rfl rfl) (q_pdw [] rfl rfl) hK0
        · have hf := q_in h7 hf
          refine q_blk 2 [] (c' := q_kc (t, r, m, z, N, ext, rx, L) I E 2 [some (.ref 452), some (.int v1), some (.int (v2 + 1))] [] [] []) ok_X11_wordLength rfl q_cn ?_
          exact ih (I := q_ws I []) (E := q_ws E []) hf (q_Jmrg (q_mgw rfl rfl) (q_mgw rfl rfl) hK0)
set_option maxHeartbeats 4000000 in
theorem ct_X11_wordLength_452 {g : q_G} {t : Nat} {r : Nat} {m : Nat} {z : Nat} {N : Nat} {ext : Nat → q_Sh} {rx : Nat → Nat → Option Nat} {L : Nat → Nat → Int64} {d : Nat} (hd : 2 ≤ d)  {I : Nat → Nat → Int32} {E : Nat → Nat → Option Nat} {x1 : Int32} {r0 : Int32} (hf : f_X11_wordLength (I 401) (I 452) x1 = some r0) : q_Ct g m_X11_wordLength d 0 0 [] [.ref 452, .int x1] (q_hp (t, r, m, z, N, ext, rx, L) I E) (fun o h' => o = .inl (some (.int r0)) ∧ h' = q_hp (t, r, m, z, N, ext, rx, L) (q_ws I []) (q_ws E [])) := by
  rw [f_X11_wordLength] at hf
  refine q_Ct_of ok_X11_wordLength (Nat.le_of_ble_eq_true rfl) ?_ _ rfl rfl
  change q_J g m_X11_wordLength d 0 0 _ [] _ 0 0 (q_kc (t, r, m, z, N, ext, rx, L) I E 0 [some (.ref 452), some (.int x1), none] [] [] [])
  refine q_blk 2 [] (c' := q_kc (t, r, m, z, N, ext, rx, L) I E 2 [some (.ref 452), some (.int x1), some (.int x1)] [] [] []) ok_X11_wordLength rfl q_cn ?_
  obtain ⟨r8, hr8, hf⟩ := q_bd hf
  refine lp_X11_wordLength_L2_452 (I := q_ws I []) (E := q_ws E []) hd (Nat.le_of_ble_eq_true rfl) (Nat.le_of_ble_eq_true rfl) 4096 hr8 ?_
  refine q_Jmrg (lI' := []) (lE' := []) (q_mgw rfl rfl) (q_mgw rfl rfl) ?_
  refine q_blk 3 [] (c' := q_kc (t, r, m, z, N, ext, rx, L) I E 21 [none, some (.int x1), some (.int r8)] [.int (r8 - x1)] [] []) ok_X11_wordLength rfl q_cn ?_
  cases hf
  exact q_kri ok_X11_wordLength rfl rfl rfl (Nat.le_of_ble_eq_true rfl) (Nat.le_of_ble_eq_true rfl) ⟨rfl, q_hpe (q_pdw [] rfl rfl) (q_pdw [] rfl rfl)⟩
set_option maxHeartbeats 4000000 in
theorem ct_X11_lengthWithin {g : q_G} {t : Nat} {r : Nat} {m : Nat} {z : Nat} {N : Nat} {ext : Nat → q_Sh} {rx : Nat → Nat → Option Nat} {L : Nat → Nat → Int64} {d : Nat} (hd : 1 ≤ d)  {I : Nat → Nat → Int32} {E : Nat → Nat → Option Nat} {x0 : Int32} {x1 : Int32} {r0 : Int32} (hf : f_X11_lengthWithin x0 x1 = some r0) : q_Ct g m_X11_lengthWithin d 0 0 [] [.int x0, .int x1] (q_hp (t, r, m, z, N, ext, rx, L) I E) (fun o h' => o = .inl (some (.int r0)) ∧ h' = q_hp (t, r, m, z, N, ext, rx, L) (q_ws I []) (q_ws E [])) := by
  rw [f_X11_lengthWithin] at hf
  refine q_Ct_of ok_X11_lengthWithin (Nat.le_of_ble_eq_true rfl) ?_ _ rfl rfl
  change q_J g m_X11_lengthWithin d 0 0 _ [] _ 0 0 (q_kc (t, r, m, z, N, ext, rx, L) I E 0 [some (.int x0), some (.int x1)] [] [] [])
  refine q_blf 2 [] (a := q_kc (t, r, m, z, N, ext, rx, L) I E 5 [some (.int x0), some (.int x1)] [] [] []) (b := q_kc (t, r, m, z, N, ext, rx, L) I E 3 [some (.int x0), some (.int x1)] [] [] []) (P := x1 < x0) ok_X11_lengthWithin rfl q_cn (fun h1 => ?_) (fun h1 => ?_)
  · have hf := q_ip h1 hf
    refine q_blk 1 [] (c' := q_kc (t, r, m, z, N, ext, rx, L) I E 6 [some (.int x0), some (.int x1)] [.int (0 : Int32)] [] []) ok_X11_lengthWithin rfl q_cn ?_
    cases hf
    exact q_kri ok_X11_lengthWithin rfl rfl rfl (Nat.le_of_ble_eq_true rfl) (Nat.le_of_ble_eq_true rfl) ⟨rfl, q_hpe (q_pdw [] rfl rfl) (q_pdw [] rfl rfl)⟩
  · have hf := q_in h1 hf
    refine q_blk 2 [] (c' := q_kc (t, r, m, z, N, ext, rx, L) I E 6 [some (.int x0), some (.int x1)] [.int x0] [] []) ok_X11_lengthWithin rfl q_cn ?_
    cases hf
    exact q_kri ok_X11_lengthWithin rfl rfl rfl (Nat.le_of_ble_eq_true rfl) (Nat.le_of_ble_eq_true rfl) ⟨rfl, q_hpe (q_pdw [] rfl rfl) (q_pdw [] rfl rfl)⟩
set_option maxHeartbeats 4000000 in
theorem lp_X11_digitCount_L2_452 {g : q_G} {d mc ms : Nat} {h0 : q_H} {Q : (Option Value ⊕ String) → q_H → Prop} {k n : Nat} {t : Nat} {r : Nat} {m : Nat} {z : Nat} {N : Nat} {ext : Nat → q_Sh} {rx : Nat → Nat → Option Nat} {L : Nat → Nat → Int64} (hd : 2 ≤ d) (hk : k ≤ mc) (hn : n ≤ ms)  {v1 : Int32} : ∀ (fu : Nat) {I : Nat → Nat → Int32} {E : Nat → Nat → Option Nat} {v2 : Int32} {r0 : Int32} (hf : f_X11_digitCount_L2 (I 401) (I 452) fu v2 = some r0) (hK0 : q_J g m_X11_digitCount d mc ms h0 [] Q k n (q_kc (t, r, m, z, N, ext, rx, L) I E 13 [none, some (.int v1), some (.int r0)] [] [] [])), q_J g m_X11_digitCount d mc ms h0 [] Q k n (2, [some (.ref 452), some (.int v1), some (.int v2)], [], q_hp (t, r, m, z, N, ext, rx, L) I E) := by
  intro fu
  induction fu with
  | zero =>
    intro I E v2 r0 hf hK0
    rw [f_X11_digitCount_L2] at hf
    cases hf
  | succ fu ih =>
    intro I E v2 r0 hf hK0
    rw [f_X11_digitCount_L2] at hf
    change q_J g m_X11_digitCount d mc ms h0 [] Q k n (q_kc (t, r, m, z, N, ext, rx, L) I E 2 [some (.ref 452), some (.int v1), some (.int v2)] [] [] [])
    refine q_blf 3 [] (a := q_kc (t, r, m, z, N, ext, rx, L) I E 13 [some (.ref 452), some (.int v1), some (.int v2)] [] [] []) (b := q_kc (t, r, m, z, N, ext, rx, L) I E 6 [some (.ref 452), some (.int v1), some (.int v2)] [] [] []) (P := ((I 452) 5) ≤ v2) ok_X11_digitCount rfl q_cn (fun h1 => ?_) (fun h1 => ?_)
    · have hf := q_ip h1 hf
      refine q_less (ls' := [none, some (.int v1), some (.int v2)]) (q_sb1 (q_sb2 (q_sb2 q_sb0))) ?_
      cases hf
      exact q_Jpad (q_pdw [] rfl rfl) (q_pdw [] rfl rfl) hK0
    · have hf := q_in h1 hf
      refine q_blk 2 [] (c' := q_kc (t, r, m, z, N, ext, rx, L) I E 8 [some (.ref 452), some (.int v1), some (.int v2)] [.int v2, .ref 452] [] []) ok_X11_digitCount rfl q_cn ?_
      obtain ⟨r2, hr2, hf⟩ := q_bd hf
      refine q_kV (M2 := m_X11_at) (As := [.int v2]) (b := 452) (v2 := some (.int r2)) ok_X11_digitCount ok_X11_at cv_X11_at (ct_X11_at_452 (d := 1) (Nat.le_refl _) hr2) rfl rfl (Or.inl rfl) rfl rfl rfl rfl (Nat.le_trans (Nat.le_of_ble_eq_true rfl) hd) hk hn (Nat.le_of_ble_eq_true rfl) (fun x hx => absurd hx List.not_mem_nil) (q_nmL0 _) (q_nmS0 _) rfl (pos' := 9) (st' := [.int r2]) (lI' := []) (lE' := []) rfl rfl rfl rfl ?_
      obtain ⟨r3, hr3, hf⟩ := q_bd hf
      refine q_kS (M2 := m_X11_isDigit) (As := [.int r2]) (v2 := some (.int (q_bz r3))) ok_X11_digitCount ok_X11_isDigit cs_X11_isDigit (ct_X11_isDigit (d := 1) (Nat.le_refl _) hr3) rfl rfl (Or.inl rfl) (Nat.le_trans (Nat.le_of_ble_eq_true rfl) hd) hk hn (Nat.le_of_ble_eq_true rfl) (fun x hx => absurd hx List.not_mem_nil) (q_nmL0 _) (q_nmS0 _) rfl (pos' := 10) (st' := [.int (q_bz r3)]) (lI' := []) (lE' := []) rfl rfl rfl rfl ?_
      refine q_blf 0 [] (a := q_kc (t, r, m, z, N, ext, rx, L) I E 13 [some (.ref 452), some (.int v1), some (.int v2)] [] [] []) (b := q_kc (t, r, m, z, N, ext, rx, L) I E 11 [some (.ref 452), some (.int v1), some (.int v2)] [] [] []) (P := (q_bz r3) = 0) ok_X11_digitCount rfl q_cn (fun h4 => ?_) (fun h4 => ?_)
      · have hf := q_ip h4 hf
        refine q_less (ls' := [none, some (.int v1), some (.int v2)]) (q_sb1 (q_sb2 (q_sb2 q_sb0))) ?_
        cases hf
        exact q_Jpad (q_pdw [] rfl rfl) (q_pdw [] rfl rfl) hK0
      · have hf := q_in h4 hf
        refine q_blk 2 [] (c' := q_kc (t, r, m, z, N, ext, rx, L) I E 2 [some (.ref 452), some (.int v1), some (.int (v2 + 1))] [] [] []) ok_X11_digitCount rfl q_cn ?_
        exact ih (I := q_ws I []) (E := q_ws E []) hf (q_Jmrg (q_mgw rfl rfl) (q_mgw rfl rfl) hK0)
set_option maxHeartbeats 4000000 in
theorem ct_X11_digitCount_452 {g : q_G} {t : Nat} {r : Nat} {m : Nat} {z : Nat} {N : Nat} {ext : Nat → q_Sh} {rx : Nat → Nat → Option Nat} {L : Nat → Nat → Int64} {d : Nat} (hd : 2 ≤ d)  {I : Nat → Nat → Int32} {E : Nat → Nat → Option Nat} {x1 : Int32} {r0 : Int32} (hf : f_X11_digitCount (I 401) (I 452) x1 = some r0) : q_Ct g m_X11_digitCount d 0 0 [] [.ref 452, .int x1] (q_hp (t, r, m, z, N, ext, rx, L) I E) (fun o h' => o = .inl (some (.int r0)) ∧ h' = q_hp (t, r, m, z, N, ext, rx, L) (q_ws I []) (q_ws E [])) := by
  rw [f_X11_digitCount] at hf
  refine q_Ct_of ok_X11_digitCount (Nat.le_of_ble_eq_true rfl) ?_ _ rfl rfl
  change q_J g m_X11_digitCount d 0 0 _ [] _ 0 0 (q_kc (t, r, m, z, N, ext, rx, L) I E 0 [some (.ref 452), some (.int x1), none] [] [] [])
  refine q_blk 2 [] (c' := q_kc (t, r, m, z, N, ext, rx, L) I E 2 [some (.ref 452), some (.int x1), some (.int x1)] [] [] []) ok_X11_digitCount rfl q_cn ?_
  obtain ⟨r5, hr5, hf⟩ := q_bd hf
  refine lp_X11_digitCount_L2_452 (I := q_ws I []) (E := q_ws E []) hd (Nat.le_of_ble_eq_true rfl) (Nat.le_of_ble_eq_true rfl) 4096 hr5 ?_
  refine q_Jmrg (lI' := []) (lE' := []) (q_mgw rfl rfl) (q_mgw rfl rfl) ?_
  refine q_blk 3 [] (c' := q_kc (t, r, m, z, N, ext, rx, L) I E 16 [none, some (.int x1), some (.int r5)] [.int (r5 - x1)] [] []) ok_X11_digitCount rfl q_cn ?_
  cases hf
  exact q_kri ok_X11_digitCount rfl rfl rfl (Nat.le_of_ble_eq_true rfl) (Nat.le_of_ble_eq_true rfl) ⟨rfl, q_hpe (q_pdw [] rfl rfl) (q_pdw [] rfl rfl)⟩
