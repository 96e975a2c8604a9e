set_option maxHeartbeats 4000000 in
theorem ct_X8_joined {g : q_G} {t : Nat} {r : Nat} {m : Nat} {z : Nat} {N : Nat} {ext : Nat → q_Sh} {rx : Nat → Nat → Option Nat} {L : Nat → Nat → Int64} {d : Nat} (hd : 2 ≤ d)  {I : Nat → Nat → Int32} {E : Nat → Nat → Option Nat} {x0 : Nat} {x1 : Int32} {x2 : Int32} {r0 : Int32} (hf : f_X8_joined x0 x1 x2 = some r0) : q_Ct g m_X8_joined d 0 0 [] [.ref x0, .int x1, .int x2] (q_hp (t, r, m, z, N, ext, rx, L) I E) (fun o h' => o = .inl (some (.int r0)) ∧ h' = q_hp (t, r, m, z, N, ext, rx, L) (q_ws I []) (q_ws E [])) := by
  rw [f_X8_joined] at hf
  refine q_Ct_of ok_X8_joined (Nat.le_of_ble_eq_true rfl) ?_ _ rfl rfl
  change q_J g m_X8_joined d 0 0 _ [] _ 0 0 (q_kc (t, r, m, z, N, ext, rx, L) I E 0 [some (.ref x0), some (.int x1), some (.int x2)] [] [] [])
  obtain ⟨ug0, hg0, hf⟩ := q_bd hf
  refine q_blk 2 [] (c' := q_kc (t, r, m, z, N, ext, rx, L) I E 2 [some (.ref x0), some (.int x1), some (.int x2)] [.ref x0, .ref 50] [] []) ok_X8_joined rfl q_cn ?_
  refine q_kord (pos' := 3) ok_X8_joined rfl rfl (q_e49_lt hg0) (Nat.le_trans (Nat.le_of_ble_eq_true rfl) hd) (Nat.le_of_ble_eq_true rfl) (Nat.le_of_ble_eq_true rfl) (Nat.le_of_ble_eq_true rfl) rfl ?_
  obtain ⟨j1, hj1, hf⟩ := q_bd hf
  refine q_blk 1 [j1] (c' := q_kc (t, r, m, z, N, ext, rx, L) I E 4 [some (.ref x0), some (.int x1), some (.int x2)] [.int (q_sw j1)] [] []) ok_X8_joined rfl (q_cc hj1 q_cn) ?_
  refine q_ksw [9, 81, 25, 29, 81, 5, 13, 17, 33, 41, 49, 57, 65, 73, 77] ok_X8_joined rfl (dp := 81) rfl (fun ix t9 ht9 hx9 => ?_) (fun hx9 => ?_) (by decide) (by decide)
  · match ix, ht9 with
    | 0, ht9 =>
      have hx9 : (q_sw j1) = 17 := hx9
      cases ht9
      have hf := q_ip hx9 hf
      refine q_blk 3 [] (c' := q_kc (t, r, m, z, N, ext, rx, L) I E 12 [some (.ref x0), some (.int x1), some (.int x2)] [.int (x1 - x2)] [] []) ok_X8_joined rfl q_cn ?_
      cases hf
      exact q_kri ok_X8_joined rfl rfl rfl (Nat.le_of_ble_eq_true rfl) (Nat.le_of_ble_eq_true rfl) ⟨rfl, q_hpe (q_pdw [] rfl rfl) (q_pdw [] rfl rfl)⟩
    | 1, ht9 =>
      have hx9 : (q_sw j1) = 18 := hx9
      cases ht9
      have hf := q_in (fun hz9 => absurd (hx9.symm.trans hz9) (by decide)) hf
      have hf := q_ip hx9 hf
      refine q_blk 1 [] (c' := q_kc (t, r, m, z, N, ext, rx, L) I E 82 [some (.ref x0), some (.int x1), some (.int x2)] [.int (0 : Int32)] [] []) ok_X8_joined rfl q_cn ?_
      cases hf
      exact q_kri ok_X8_joined rfl rfl rfl (Nat.le_of_ble_eq_true rfl) (Nat.le_of_ble_eq_true rfl) ⟨rfl, q_hpe (q_pdw [] rfl rfl) (q_pdw [] rfl rfl)⟩
    | 2, ht9 =>
      have hx9 : (q_sw j1) = 19 := hx9
      cases ht9
      have hf := q_in (fun hz9 => absurd (hx9.symm.trans hz9) (by decide)) hf
      have hf := q_in (fun hz9 => absurd (hx9.symm.trans hz9) (by decide)) hf
      have hf := q_ip hx9 hf
      refine q_blk 2 [] (c' := q_kc (t, r, m, z, N, ext, rx, L) I E 27 [some (.ref x0), some (.int x1), some (.int x2)] [.int x2, .int x1] [] []) ok_X8_joined rfl q_cn ?_
      refine q_kmn (pos' := 28) ok_X8_joined rfl rfl (Nat.le_trans (Nat.le_of_ble_eq_true rfl) hd) (Nat.le_of_ble_eq_true rfl) (Nat.le_of_ble_eq_true rfl) (Nat.le_of_ble_eq_true rfl) rfl ?_
      cases hf
      exact q_kri ok_X8_joined rfl rfl rfl (Nat.le_of_ble_eq_true rfl) (Nat.le_of_ble_eq_true rfl) ⟨rfl, q_hpe (q_pdw [] rfl rfl) (q_pdw [] rfl rfl)⟩
    | 3, ht9 =>
      have hx9 : (q_sw j1) = 20 := hx9
      cases ht9
      have hf := q_in (fun hz9 => absurd (hx9.symm.trans hz9) (by decide)) hf
      have hf := q_in (fun hz9 => absurd (hx9.symm.trans hz9) (by decide)) hf
      have hf := q_in (fun hz9 => absurd (hx9.symm.trans hz9) (by decide)) hf
      have hf := q_ip hx9 hf
      refine q_blk 2 [] (c' := q_kc (t, r, m, z, N, ext, rx, L) I E 31 [some (.ref x0), some (.int x1), some (.int x2)] [.int x2, .int x1] [] []) ok_X8_joined rfl q_cn ?_
      refine q_kmx (pos' := 32) ok_X8_joined rfl rfl (Nat.le_trans (Nat.le_of_ble_eq_true rfl) hd) (Nat.le_of_ble_eq_true rfl) (Nat.le_of_ble_eq_true rfl) (Nat.le_of_ble_eq_true rfl) rfl ?_
      cases hf
      exact q_kri ok_X8_joined rfl rfl rfl (Nat.le_of_ble_eq_true rfl) (Nat.le_of_ble_eq_true rfl) ⟨rfl, q_hpe (q_pdw [] rfl rfl) (q_pdw [] rfl rfl)⟩
    | 4, ht9 =>
      have hx9 : (q_sw j1) = 21 := hx9
      cases ht9
      have hf := q_in (fun hz9 => absurd (hx9.symm.trans hz9) (by decide)) hf
      have hf := q_in (fun hz9 => absurd (hx9.symm.trans hz9) (by decide)) hf
      have hf := q_in (fun hz9 => absurd (hx9.symm.trans hz9) (by decide)) hf
      have hf := q_in (fun hz9 => absurd (hx9.symm.trans hz9) (by decide)) hf
      have hf := q_ip hx9 hf
      refine q_blk 1 [] (c' := q_kc (t, r, m, z, N, ext, rx, L) I E 82 [some (.ref x0), some (.int x1), some (.int x2)] [.int (0 : Int32)] [] []) ok_X8_joined rfl q_cn ?_
      cases hf
      exact q_kri ok_X8_joined rfl rfl rfl (Nat.le_of_ble_eq_true rfl) (Nat.le_of_ble_eq_true rfl) ⟨rfl, q_hpe (q_pdw [] rfl rfl) (q_pdw [] rfl rfl)⟩
    | 5, ht9 =>
      have hx9 : (q_sw j1) = 22 := hx9
      cases ht9
      have hf := q_in (fun hz9 => absurd (hx9.symm.trans hz9) (by decide)) hf
      have hf := q_in (fun hz9 => absurd (hx9.symm.trans hz9) (by decide)) hf
      have hf := q_in (fun hz9 => absurd (hx9.symm.trans hz9) (by decide)) hf
      have hf := q_in (fun hz9 => absurd (hx9.symm.trans hz9) (by decide)) hf
      have hf := q_in (fun hz9 => absurd (hx9.symm.trans hz9) (by decide)) hf
      have hf := q_ip hx9 hf
      refine q_blk 3 [] (c' := q_kc (t, r, m, z, N, ext, rx, L) I E 8 [some (.ref x0), some (.int x1), some (.int x2)] [.int (x1 + x2)] [] []) ok_X8_joined rfl q_cn ?_
      cases hf
      exact q_kri ok_X8_joined rfl rfl rfl (Nat.le_of_ble_eq_true rfl) (Nat.le_of_ble_eq_true rfl) ⟨rfl, q_hpe (q_pdw [] rfl rfl) (q_pdw [] rfl rfl)⟩
    | 6, ht9 =>
      have hx9 : (q_sw j1) = 23 := hx9
      cases ht9
      have hf := q_in (fun hz9 => absurd (hx9.symm.trans hz9) (by decide)) hf
      have hf := q_in (fun hz9 => absurd (hx9.symm.trans hz9) (by decide)) hf
      have hf := q_in (fun hz9 => absurd (hx9.symm.trans hz9) (by decide)) hf
      have hf := q_in (fun hz9 => absurd (hx9.symm.trans hz9) (by decide)) hf
      have hf := q_in (fun hz9 => absurd (hx9.symm.trans hz9) (by decide)) hf
      have hf := q_in (fun hz9 => absurd (hx9.symm.trans hz9) (by decide)) hf
      have hf := q_ip hx9 hf
      refine q_blk 3 [] (c' := q_kc (t, r, m, z, N, ext, rx, L) I E 16 [some (.ref x0), some (.int x1), some (.int x2)] [.int (x1 * x2)] [] []) ok_X8_joined rfl q_cn ?_
      cases hf
      exact q_kri ok_X8_joined rfl rfl rfl (Nat.le_of_ble_eq_true rfl) (Nat.le_of_ble_eq_true rfl) ⟨rfl, q_hpe (q_pdw [] rfl rfl) (q_pdw [] rfl rfl)⟩
    | 7, ht9 =>
      have hx9 : (q_sw j1) = 24 := hx9
      cases ht9
      have hf := q_in (fun hz9 => absurd (hx9.symm.trans hz9) (by decide)) hf
      have hf := q_in (fun hz9 => absurd (hx9.symm.trans hz9) (by decide)) hf
      have hf := q_in (fun hz9 => absurd (hx9.symm.trans hz9) (by decide)) hf
      have hf := q_in (fun hz9 => absurd (hx9.symm.trans hz9) (by decide)) hf
      have hf := q_in (fun hz9 => absurd (hx9.symm.trans hz9) (by decide)) hf
      have hf := q_in (fun hz9 => absurd (hx9.symm.trans hz9) (by decide)) hf
      have hf := q_in (fun hz9 => absurd (hx9.symm.trans hz9) (by decide)) hf
      have hf := q_ip hx9 hf
      refine q_blf 1 [] (a := q_kc (t, r, m, z, N, ext, rx, L) I E 21 [some (.ref x0), some (.int x1), some (.int x2)] [] [] []) (b := q_kc (t, r, m, z, N, ext, rx, L) I E 19 [some (.ref x0), some (.int x1), some (.int x2)] [] [] []) (P := ¬ x2 = 0) ok_X8_joined rfl q_cn (fun h2 => ?_) (fun h2 => ?_)
      · have hf := q_ip h2 hf
        obtain ⟨u3, hu4, hf⟩ := q_bd hf
        refine q_blk 2 [] (c' := q_kc (t, r, m, z, N, ext, rx, L) I E 23 [some (.ref x0), some (.int x1), some (.int x2)] [.int x2, .int x1] [] []) ok_X8_joined rfl q_cn ?_
        refine q_kdv (pos' := 24) ok_X8_joined rfl (q_nz_ne hu4) rfl ?_
        cases hf
        exact q_kri ok_X8_joined rfl rfl rfl (Nat.le_of_ble_eq_true rfl) (Nat.le_of_ble_eq_true rfl) ⟨rfl, q_hpe (q_pdw [] rfl rfl) (q_pdw [] rfl rfl)⟩
      · have hf := q_in h2 hf
        refine q_blk 2 [] (c' := q_kc (t, r, m, z, N, ext, rx, L) I E 24 [some (.ref x0), some (.int x1), some (.int x2)] [.int (0 : Int32)] [] []) ok_X8_joined rfl q_cn ?_
        cases hf
        exact q_kri ok_X8_joined rfl rfl rfl (Nat.le_of_ble_eq_true rfl) (Nat.le_of_ble_eq_true rfl) ⟨rfl, q_hpe (q_pdw [] rfl rfl) (q_pdw [] rfl rfl)⟩
    | 8, ht9 =>
      have hx9 : (q_sw j1) = 25 := hx9
      cases ht9
      have hf := q_in (fun hz9 => absurd (hx9.symm.trans hz9) (by decide)) hf
      have hf := q_in (fun hz9 => absurd (hx9.symm.trans hz9) (by decide)) hf
      have hf := q_in (fun hz9 => absurd (hx9.symm.trans hz9) (by decide)) hf
      have hf := q_in (fun hz9 => absurd (hx9.symm.trans hz9) (by decide)) hf
      have hf := q_in (fun hz9 => absurd (hx9.symm.trans hz9) (by decide)) hf
      have hf := q_in (fun hz9 => absurd (hx9.symm.trans hz9) (by decide)) hf
      have hf := q_in (fun hz9 => absurd (hx9.symm.trans hz9) (by decide)) hf
      have hf := q_in (fun hz9 => absurd (hx9.symm.trans hz9) (by decide)) hf
      have hf := q_ip hx9 hf
      refine q_blf 2 [] (a := q_kc (t, r, m, z, N, ext, rx, L) I E 38 [some (.ref x0), some (.int x1), some (.int x2)] [] [] []) (b := q_kc (t, r, m, z, N, ext, rx, L) I E 36 [some (.ref x0), some (.int x1), some (.int x2)] [] [] []) (P := x2 ≤ x1) ok_X8_joined rfl q_cn (fun h5 => ?_) (fun h5 => ?_)
      · have hf := q_ip h5 hf
        refine q_blk 1 [] (c' := q_kc (t, r, m, z, N, ext, rx, L) I E 39 [some (.ref x0), some (.int x1), some (.int x2)] [.int (0 : Int32)] [] []) ok_X8_joined rfl q_cn ?_
        obtain ⟨r6, hr6, hf⟩ := q_bd hf
        refine q_kS (M2 := m_X8_one) (As := [.int (q_bz false)]) (v2 := some (.int r6)) ok_X8_joined ok_X8_one cs_X8_one (ct_X8_one (d := 1) (Nat.le_refl _) hr6) rfl rfl (Or.inl rfl) (Nat.le_trans (Nat.le_of_ble_eq_true rfl) hd) (Nat.le_of_ble_eq_true rfl) (Nat.le_of_ble_eq_true rfl) (Nat.le_of_ble_eq_true rfl) (fun x hx => absurd hx List.not_mem_nil) (q_nmL0 _) (q_nmS0 _) rfl (pos' := 40) (st' := [.int r6]) (lI' := []) (lE' := []) rfl rfl rfl rfl ?_
        cases hf
        exact q_kri ok_X8_joined rfl rfl rfl (Nat.le_of_ble_eq_true rfl) (Nat.le_of_ble_eq_true rfl) ⟨rfl, q_hpe (q_pdw [] rfl rfl) (q_pdw [] rfl rfl)⟩
      · have hf := q_in h5 hf
        refine q_blk 2 [] (c' := q_kc (t, r, m, z, N, ext, rx, L) I E 39 [some (.ref x0), some (.int x1), some (.int x2)] [.int (1 : Int32)] [] []) ok_X8_joined rfl q_cn ?_
        obtain ⟨r7, hr7, hf⟩ := q_bd hf
        refine q_kS (M2 := m_X8_one) (As := [.int (q_bz true)]) (v2 := some (.int r7)) ok_X8_joined ok_X8_one cs_X8_one (ct_X8_one (d := 1) (Nat.le_refl _) hr7) rfl rfl (Or.inl rfl) (Nat.le_trans (Nat.le_of_ble_eq_true rfl) hd) (Nat.le_of_ble_eq_true rfl) (Nat.le_of_ble_eq_true rfl) (Nat.le_of_ble_eq_true rfl) (fun x hx => absurd hx List.not_mem_nil) (q_nmL0 _) (q_nmS0 _) rfl (pos' := 40) (st' := [.int r7]) (lI' := []) (lE' := []) rfl rfl rfl rfl ?_
        cases hf
        exact q_kri ok_X8_joined rfl rfl rfl (Nat.le_of_ble_eq_true rfl) (Nat.le_of_ble_eq_true rfl) ⟨rfl, q_hpe (q_pdw [] rfl rfl) (q_pdw [] rfl rfl)⟩
    | 9, ht9 =>
      have hx9 : (q_sw j1) = 26 := hx9
      cases ht9
      have hf := q_in (fun hz9 => absurd (hx9.symm.trans hz9) (by decide)) hf
      have hf := q_in (fun hz9 => absurd (hx9.symm.trans hz9) (by decide)) hf
      have hf := q_in (fun hz9 => absurd (hx9.symm.trans hz9) (by decide)) hf
      have hf := q_in (fun hz9 => absurd (hx9.symm.trans hz9) (by decide)) hf
      have hf := q_in (fun hz9 => absurd (hx9.symm.trans hz9) (by decide)) hf
      have hf := q_in (fun hz9 => absurd (hx9.symm.trans hz9) (by decide)) hf
      have hf := q_in (fun hz9 => absurd (hx9.symm.trans hz9) (by decide)) hf
      have hf := q_in (fun hz9 => absurd (hx9.symm.trans hz9) (by decide)) hf
      have hf := q_in (fun hz9 => absurd (hx9.symm.trans hz9) (by decide)) hf
      have hf := q_ip hx9 hf
      refine q_blf 2 [] (a := q_kc (t, r, m, z, N, ext, rx, L) I E 46 [some (.ref x0), some (.int x1), some (.int x2)] [] [] []) (b := q_kc (t, r, m, z, N, ext, rx, L) I E 44 [some (.ref x0), some (.int x1), some (.int x2)] [] [] []) (P := x1 ≤ x2) ok_X8_joined rfl q_cn (fun h8 => ?_) (fun h8 => ?_)
      · have hf := q_ip h8 hf
        refine q_blk 1 [] (c' := q_kc (t, r, m, z, N, ext, rx, L) I E 47 [some (.ref x0), some (.int x1), some (.int x2)] [.int (0 : Int32)] [] []) ok_X8_joined rfl q_cn ?_
        obtain ⟨r9, hr9, hf⟩ := q_bd hf
        refine q_kS (M2 := m_X8_one) (As := [.int (q_bz false)]) (v2 := some (.int r9)) ok_X8_joined ok_X8_one cs_X8_one (ct_X8_one (d := 1) (Nat.le_refl _) hr9) rfl rfl (Or.inl rfl) (Nat.le_trans (Nat.le_of_ble_eq_true rfl) hd) (Nat.le_of_ble_eq_true rfl) (Nat.le_of_ble_eq_true rfl) (Nat.le_of_ble_eq_true rfl) (fun x hx => absurd hx List.not_mem_nil) (q_nmL0 _) (q_nmS0 _) rfl (pos' := 48) (st' := [.int r9]) (lI' := []) (lE' := []) rfl rfl rfl rfl ?_
        cases hf
        exact q_kri ok_X8_joined rfl rfl rfl (Nat.le_of_ble_eq_true rfl) (Nat.le_of_ble_eq_true rfl) ⟨rfl, q_hpe (q_pdw [] rfl rfl) (q_pdw [] rfl rfl)⟩
      · have hf := q_in h8 hf
        refine q_blk 2 [] (c' := q_kc (t, r, m, z, N, ext, rx, L) I E 47 [some (.ref x0), some (.int x1), some (.int x2)] [.int (1 : Int32)] [] []) ok_X8_joined rfl q_cn ?_
        obtain ⟨r10, hr10, hf⟩ := q_bd hf
        refine q_kS (M2 := m_X8_one) (As := [.int (q_bz true)]) (v2 := some (.int r10)) ok_X8_joined ok_X8_one cs_X8_one (ct_X8_one (d := 1) (Nat.le_refl _) hr10) rfl rfl (Or.inl rfl) (Nat.le_trans (Nat.le_of_ble_eq_true rfl) hd) (Nat.le_of_ble_eq_true rfl) (Nat.le_of_ble_eq_true rfl) (Nat.le_of_ble_eq_true rfl) (fun x hx => absurd hx List.not_mem_nil) (q_nmL0 _) (q_nmS0 _) rfl (pos' := 48) (st' := [.int r10]) (lI' := []) (lE' := []) rfl rfl rfl rfl ?_
        cases hf
        exact q_kri ok_X8_joined rfl rfl rfl (Nat.le_of_ble_eq_true rfl) (Nat.le_of_ble_eq_true rfl) ⟨rfl, q_hpe (q_pdw [] rfl rfl) (q_pdw [] rfl rfl)⟩
    | 10, ht9 =>
      have hx9 : (q_sw j1) = 27 := hx9
      cases ht9
      have hf := q_in (fun hz9 => absurd (hx9.symm.trans hz9) (by decide)) hf
      have hf := q_in (fun hz9 => absurd (hx9.symm.trans hz9) (by decide)) hf
      have hf := q_in (fun hz9 => absurd (hx9.symm.trans hz9) (by decide)) hf
      have hf := q_in (fun hz9 => absurd (hx9.symm.trans hz9) (by decide)) hf
      have hf := q_in (fun hz9 => absurd (hx9.symm.trans hz9) (by decide)) hf
      have hf := q_in (fun hz9 => absurd (hx9.symm.trans hz9) (by decide)) hf
      have hf := q_in (fun hz9 => absurd (hx9.symm.trans hz9) (by decide)) hf
      have hf := q_in (fun hz9 => absurd (hx9.symm.trans hz9) (by decide)) hf
      have hf := q_in (fun hz9 => absurd (hx9.symm.trans hz9) (by decide)) hf
      have hf := q_in (fun hz9 => absurd (hx9.symm.trans hz9) (by decide)) hf
      have hf := q_ip hx9 hf
      refine q_blf 2 [] (a := q_kc (t, r, m, z, N, ext, rx, L) I E 54 [some (.ref x0), some (.int x1), some (.int x2)] [] [] []) (b := q_kc (t, r, m, z, N, ext, rx, L) I E 52 [some (.ref x0), some (.int x1), some (.int x2)] [] [] []) (P := ¬ x1 = x2) ok_X8_joined rfl q_cn (fun h11 => ?_) (fun h11 => ?_)
      · have hf := q_ip h11 hf
        refine q_blk 1 [] (c' := q_kc (t, r, m, z, N, ext, rx, L) I E 55 [some (.ref x0), some (.int x1), some (.int x2)] [.int (0 : Int32)] [] []) ok_X8_joined rfl q_cn ?_
        obtain ⟨r12, hr12, hf⟩ := q_bd hf
        refine q_kS (M2 := m_X8_one) (As := [.int (q_bz false)]) (v2 := some (.int r12)) ok_X8_joined ok_X8_one cs_X8_one (ct_X8_one (d := 1) (Nat.le_refl _) hr12) rfl rfl (Or.inl rfl) (Nat.le_trans (Nat.le_of_ble_eq_true rfl) hd) (Nat.le_of_ble_eq_true rfl) (Nat.le_of_ble_eq_true rfl) (Nat.le_of_ble_eq_true rfl) (fun x hx => absurd hx List.not_mem_nil) (q_nmL0 _) (q_nmS0 _) rfl (pos' := 56) (st' := [.int r12]) (lI' := []) (lE' := []) rfl rfl rfl rfl ?_
        cases hf
        exact q_kri ok_X8_joined rfl rfl rfl (Nat.le_of_ble_eq_true rfl) (Nat.le_of_ble_eq_true rfl) ⟨rfl, q_hpe (q_pdw [] rfl rfl) (q_pdw [] rfl rfl)⟩
      · have hf := q_in h11 hf
        refine q_blk 2 [] (c' := q_kc (t, r, m, z, N, ext, rx, L) I E 55 [some (.ref x0), some (.int x1), some (.int x2)] [.int (1 : Int32)] [] []) ok_X8_joined rfl q_cn ?_
        obtain ⟨r13, hr13, hf⟩ := q_bd hf
        refine q_kS (M2 := m_X8_one) (As := [.int (q_bz true)]) (v2 := some (.int r13)) ok_X8_joined ok_X8_one cs_X8_one (ct_X8_one (d := 1) (Nat.le_refl _) hr13) rfl rfl (Or.inl rfl) (Nat.le_trans (Nat.le_of_ble_eq_true rfl) hd) (Nat.le_of_ble_eq_true rfl) (Nat.le_of_ble_eq_true rfl) (Nat.le_of_ble_eq_true rfl) (fun x hx => absurd hx List.not_mem_nil) (q_nmL0 _) (q_nmS0 _) rfl (pos' := 56) (st' := [.int r13]) (lI' := []) (lE' := []) rfl rfl rfl rfl ?_
        cases hf
        exact q_kri ok_X8_joined rfl rfl rfl (Nat.le_of_ble_eq_true rfl) (Nat.le_of_ble_eq_true rfl) ⟨rfl, q_hpe (q_pdw [] rfl rfl) (q_pdw [] rfl rfl)⟩
    | 11, ht9 =>
      have hx9 : (q_sw j1) = 28 := hx9
      cases ht9
      have hf := q_in (fun hz9 => absurd (hx9.symm.trans hz9) (by decide)) hf
      have hf := q_in (fun hz9 => absurd (hx9.symm.trans hz9) (by decide)) hf
      have hf := q_in (fun hz9 => absurd (hx9.symm.trans hz9) (by decide)) hf
      have hf := q_in (fun hz9 => absurd (hx9.symm.trans hz9) (by decide)) hf
      have hf := q_in (fun hz9 => absurd (hx9.symm.trans hz9) (by decide)) hf
      have hf := q_in (fun hz9 => absurd (hx9.symm.trans hz9) (by decide)) hf
      have hf := q_in (fun hz9 => absurd (hx9.symm.trans hz9) (by decide)) hf
      have hf := q_in (fun hz9 => absurd (hx9.symm.trans hz9) (by decide)) hf
      have hf := q_in (fun hz9 => absurd (hx9.symm.trans hz9) (by decide)) hf
      have hf := q_in (fun hz9 => absurd (hx9.symm.trans hz9) (by decide)) hf
      have hf := q_in (fun hz9 => absurd (hx9.symm.trans hz9) (by decide)) hf
      have hf := q_ip hx9 hf
      refine q_blf 2 [] (a := q_kc (t, r, m, z, N, ext, rx, L) I E 62 [some (.ref x0), some (.int x1), some (.int x2)] [] [] []) (b := q_kc (t, r, m, z, N, ext, rx, L) I E 60 [some (.ref x0), some (.int x1), some (.int x2)] [] [] []) (P := x2 < x1) ok_X8_joined rfl q_cn (fun h14 => ?_) (fun h14 => ?_)
      · have hf := q_ip h14 hf
        refine q_blk 1 [] (c' := q_kc (t, r, m, z, N, ext, rx, L) I E 63 [some (.ref x0), some (.int x1), some (.int x2)] [.int (0 : Int32)] [] []) ok_X8_joined rfl q_cn ?_
        obtain ⟨r15, hr15, hf⟩ := q_bd hf
        refine q_kS (M2 := m_X8_one) (As := [.int (q_bz false)]) (v2 := some (.int r15)) ok_X8_joined ok_X8_one cs_X8_one (ct_X8_one (d := 1) (Nat.le_refl _) hr15) rfl rfl (Or.inl rfl) (Nat.le_trans (Nat.le_of_ble_eq_true rfl) hd) (Nat.le_of_ble_eq_true rfl) (Nat.le_of_ble_eq_true rfl) (Nat.le_of_ble_eq_true rfl) (fun x hx => absurd hx List.not_mem_nil) (q_nmL0 _) (q_nmS0 _) rfl (pos' := 64) (st' := [.int r15]) (lI' := []) (lE' := []) rfl rfl rfl rfl ?_
        cases hf
        exact q_kri ok_X8_joined rfl rfl rfl (Nat.le_of_ble_eq_true rfl) (Nat.le_of_ble_eq_true rfl) ⟨rfl, q_hpe (q_pdw [] rfl rfl) (q_pdw [] rfl rfl)⟩
      · have hf := q_in h14 hf
        refine q_blk 2 [] (c' := q_kc (t, r, m, z, N, ext, rx, L) I E 63 [some (.ref x0), some (.int x1), some (.int x2)] [.int (1 : Int32)] [] []) ok_X8_joined rfl q_cn ?_
        obtain ⟨r16, hr16, hf⟩ := q_bd hf
        refine q_kS (M2 := m_X8_one) (As := [.int (q_bz true)]) (v2 := some (.int r16)) ok_X8_joined ok_X8_one cs_X8_one (ct_X8_one (d := 1) (Nat.le_refl _) hr16) rfl rfl (Or.inl rfl) (Nat.le_trans (Nat.le_of_ble_eq_true rfl) hd) (Nat.le_of_ble_eq_true rfl) (Nat.le_of_ble_eq_true rfl) (Nat.le_of_ble_eq_true rfl) (fun x hx => absurd hx List.not_mem_nil) (q_nmL0 _) (q_nmS0 _) rfl (pos' := 64) (st' := [.int r16]) (lI' := []) (lE' := []) rfl rfl rfl rfl ?_
        cases hf
        exact q_kri ok_X8_joined rfl rfl rfl (Nat.le_of_ble_eq_true rfl) (Nat.le_of_ble_eq_true rfl) ⟨rfl, q_hpe (q_pdw [] rfl rfl) (q_pdw [] rfl rfl)⟩
    | 12, ht9 =>
      have hx9 : (q_sw j1) = 29 := hx9
      cases ht9
      have hf := q_in (fun hz9 => absurd (hx9.symm.trans hz9) (by decide)) hf
      have hf := q_in (fun hz9 => absurd (hx9.symm.trans hz9) (by decide)) hf
      have hf := q_in (fun hz9 => absurd (hx9.symm.trans hz9) (by decide)) hf
      have hf := q_in (fun hz9 => absurd (hx9.symm.trans hz9) (by decide)) hf
      have hf := q_in (fun hz9 => absurd (hx9.symm.trans hz9) (by decide)) hf
      have hf := q_in (fun hz9 => absurd (hx9.symm.trans hz9) (by decide)) hf
      have hf := q_in (fun hz9 => absurd (hx9.symm.trans hz9) (by decide)) hf
      have hf := q_in (fun hz9 => absurd (hx9.symm.trans hz9) (by decide)) hf
      have hf := q_in (fun hz9 => absurd (hx9.symm.trans hz9) (by decide)) hf
      have hf := q_in (fun hz9 => absurd (hx9.symm.trans hz9) (by decide)) hf
      have hf := q_in (fun hz9 => absurd (hx9.symm.trans hz9) (by decide)) hf
      have hf := q_in (fun hz9 => absurd (hx9.symm.trans hz9) (by decide)) hf
      have hf := q_ip hx9 hf
      refine q_blf 2 [] (a := q_kc (t, r, m, z, N, ext, rx, L) I E 70 [some (.ref x0), some (.int x1), some (.int x2)] [] [] []) (b := q_kc (t, r, m, z, N, ext, rx, L) I E 68 [some (.ref x0), some (.int x1), some (.int x2)] [] [] []) (P := x1 < x2) ok_X8_joined rfl q_cn (fun h17 => ?_) (fun h17 => ?_)
      · have hf := q_ip h17 hf
        refine q_blk 1 [] (c' := q_kc (t, r, m, z, N, ext, rx, L) I E 71 [some (.ref x0), some (.int x1), some (.int x2)] [.int (0 : Int32)] [] []) ok_X8_joined rfl q_cn ?_
        obtain ⟨r18, hr18, hf⟩ := q_bd hf
        refine q_kS (M2 := m_X8_one) (As := [.int (q_bz false)]) (v2 := some (.int r18)) ok_X8_joined ok_X8_one cs_X8_one (ct_X8_one (d := 1) (Nat.le_refl _) hr18) rfl rfl (Or.inl rfl) (Nat.le_trans (Nat.le_of_ble_eq_true rfl) hd) (Nat.le_of_ble_eq_true rfl) (Nat.le_of_ble_eq_true rfl) (Nat.le_of_ble_eq_true rfl) (fun x hx => absurd hx List.not_mem_nil) (q_nmL0 _) (q_nmS0 _) rfl (pos' := 72) (st' := [.int r18]) (lI' := []) (lE' := []) rfl rfl rfl rfl ?_
        cases hf
        exact q_kri ok_X8_joined rfl rfl rfl (Nat.le_of_ble_eq_true rfl) (Nat.le_of_ble_eq_true rfl) ⟨rfl, q_hpe (q_pdw [] rfl rfl) (q_pdw [] rfl rfl)⟩
      · have hf := q_in h17 hf
        refine q_blk 2 [] (c' := q_kc (t, r, m, z, N, ext, rx, L) I E 71 [some (.ref x0), some (.int x1), some (.int x2)] [.int (1 : Int32)] [] []) ok_X8_joined rfl q_cn ?_
        obtain ⟨r19, hr19, hf⟩ := q_bd hf
        refine q_kS (M2 := m_X8_one) (As := [.int (q_bz true)]) (v2 := some (.int r19)) ok_X8_joined ok_X8_one cs_X8_one (ct_X8_one (d := 1) (Nat.le_refl _) hr19) rfl rfl (Or.inl rfl) (Nat.le_trans (Nat.le_of_ble_eq_true rfl) hd) (Nat.le_of_ble_eq_true rfl) (Nat.le_of_ble_eq_true rfl) (Nat.le_of_ble_eq_true rfl) (fun x hx => absurd hx List.not_mem_nil) (q_nmL0 _) (q_nmS0 _) rfl (pos' := 72) (st' := [.int r19]) (lI' := []) (lE' := []) rfl rfl rfl rfl ?_
        cases hf
        exact q_kri ok_X8_joined rfl rfl rfl (Nat.le_of_ble_eq_true rfl) (Nat.le_of_ble_eq_true rfl) ⟨rfl, q_hpe (q_pdw [] rfl rfl) (q_pdw [] rfl rfl)⟩
    | 13, ht9 =>
      have hx9 : (q_sw j1) = 30 := hx9
      cases ht9
      have hf := q_in (fun hz9 => absurd (hx9.symm.trans hz9) (by decide)) hf
      have hf := q_in (fun hz9 => absurd (hx9.symm.trans hz9) (by decide)) hf
      have hf := q_in (fun hz9 => absurd (hx9.symm.trans hz9) (by decide)) hf
      have hf := q_in (fun hz9 => absurd (hx9.symm.trans hz9) (by decide)) hf
      have hf := q_in (fun hz9 => absurd (hx9.symm.trans hz9) (by decide)) hf
      have hf := q_in (fun hz9 => absurd (hx9.symm.trans hz9) (by decide)) hf
      have hf := q_in (fun hz9 => absurd (hx9.symm.trans hz9) (by decide)) hf
      have hf := q_in (fun hz9 => absurd (hx9.symm.trans hz9) (by decide)) hf
      have hf := q_in (fun hz9 => absurd (hx9.symm.trans hz9) (by decide)) hf
      have hf := q_in (fun hz9 => absurd (hx9.symm.trans hz9) (by decide)) hf
      have hf := q_in (fun hz9 => absurd (hx9.symm.trans hz9) (by decide)) hf
      have hf := q_in (fun hz9 => absurd (hx9.symm.trans hz9) (by decide)) hf
      have hf := q_in (fun hz9 => absurd (hx9.symm.trans hz9) (by decide)) hf
      have hf := q_ip hx9 hf
      refine q_blk 3 [] (c' := q_kc (t, r, m, z, N, ext, rx, L) I E 76 [some (.ref x0), some (.int x1), some (.int x2)] [.int (x1 &&& x2)] [] []) ok_X8_joined rfl q_cn ?_
      cases hf
      exact q_kri ok_X8_joined rfl rfl rfl (Nat.le_of_ble_eq_true rfl) (Nat.le_of_ble_eq_true rfl) ⟨rfl, q_hpe (q_pdw [] rfl rfl) (q_pdw [] rfl rfl)⟩
    | 14, ht9 =>
      have hx9 : (q_sw j1) = 31 := hx9
      cases ht9
      have hf := q_in (fun hz9 => absurd (hx9.symm.trans hz9) (by decide)) hf
      have hf := q_in (fun hz9 => absurd (hx9.symm.trans hz9) (by decide)) hf
      have hf := q_in (fun hz9 => absurd (hx9.symm.trans hz9) (by decide)) hf
      have hf := q_in (fun hz9 => absurd (hx9.symm.trans hz9) (by decide)) hf
      have hf := q_in (fun hz9 => absurd (hx9.symm.trans hz9) (by decide)) hf
      have hf := q_in (fun hz9 => absurd (hx9.symm.trans hz9) (by decide)) hf
      have hf := q_in (fun hz9 => absurd (hx9.symm.trans hz9) (by decide)) hf
      have hf := q_in (fun hz9 => absurd (hx9.symm.trans hz9) (by decide)) hf
      have hf := q_in (fun hz9 => absurd (hx9.symm.trans hz9) (by decide)) hf
      have hf := q_in (fun hz9 => absurd (hx9.symm.trans hz9) (by decide)) hf
      have hf := q_in (fun hz9 => absurd (hx9.symm.trans hz9) (by decide)) hf
      have hf := q_in (fun hz9 => absurd (hx9.symm.trans hz9) (by decide)) hf
      have hf := q_in (fun hz9 => absurd (hx9.symm.trans hz9) (by decide)) hf
      have hf := q_in (fun hz9 => absurd (hx9.symm.trans hz9) (by decide)) hf
      have hf := q_ip hx9 hf
      refine q_blk 3 [] (c' := q_kc (t, r, m, z, N, ext, rx, L) I E 80 [some (.ref x0), some (.int x1), some (.int x2)] [.int (x1 ||| x2)] [] []) ok_X8_joined rfl q_cn ?_
      cases hf
      exact q_kri ok_X8_joined rfl rfl rfl (Nat.le_of_ble_eq_true rfl) (Nat.le_of_ble_eq_true rfl) ⟨rfl, q_hpe (q_pdw [] rfl rfl) (q_pdw [] rfl rfl)⟩
    | z9 + 15, ht9 => cases ht9
  · have hf := q_in (hx9 0 (by decide)) hf
    have hf := q_in (hx9 1 (by decide)) hf
    have hf := q_in (hx9 2 (by decide)) hf
    have hf := q_in (hx9 3 (by decide)) hf
    have hf := q_in (hx9 4 (by decide)) hf
    have hf := q_in (hx9 5 (by decide)) hf
    have hf := q_in (hx9 6 (by decide)) hf
    have hf := q_in (hx9 7 (by decide)) hf
    have hf := q_in (hx9 8 (by decide)) hf
    have hf := q_in (hx9 9 (by decide)) hf
    have hf := q_in (hx9 10 (by decide)) hf
    have hf := q_in (hx9 11 (by decide)) hf
    have hf := q_in (hx9 12 (by decide)) hf
    have hf := q_in (hx9 13 (by decide)) hf
    have hf := q_in (hx9 14 (by decide)) hf
    refine q_blk 1 [] (c' := q_kc (t, r, m, z, N, ext, rx, L) I E 82 [some (.ref x0), some (.int x1), some (.int x2)] [.int (0 : Int32)] [] []) ok_X8_joined rfl q_cn ?_
    cases hf
    exact q_kri ok_X8_joined rfl rfl rfl (Nat.le_of_ble_eq_true rfl) (Nat.le_of_ble_eq_true rfl) ⟨rfl, q_hpe (q_pdw [] rfl rfl) (q_pdw [] rfl rfl)⟩
set_option maxHeartbeats 4000000 in
theorem ct_X8_obey_490_457 {g : q_G} {t : Nat} {r : Nat} {m : Nat} {z : Nat} {N : Nat} {ext : Nat → q_Sh} {rx : Nat → Nat → Option Nat} {L : Nat → Nat → Int64} {d : Nat} (hd : 3 ≤ d)  {I : Nat → Nat → Int32} {E : Nat → Nat → Option Nat} {x2 : Nat} {x3 : Int32} {r0 : (Nat → Int32) × (Nat → Int32)} (hf : f_X8_obey (I 402) (I 457) (I 461) (I 462) (I 465) (I 470) (I 490) (I 491) x2 x3 = some r0) : q_Ct g m_X8_obey d 0 0 [] [.ref 490, .ref 457, .ref x2, .int x3] (q_hp (t, r, m, z, N, ext, rx, L) I E) (fun o h' => o = .inl none ∧ h' = q_hp (t, r, m, z, N, ext, rx, L) (q_ws I [(490, r0.1), (491, r0.2)]) (q_ws E [])) := by
  rw [f_X8_obey] at hf
  refine q_Ct_of ok_X8_obey (Nat.le_of_ble_eq_true rfl) ?_ _ rfl rfl
  change q_J g m_X8_obey d 0 0 _ [] _ 0 0 (q_kc (t, r, m, z, N, ext, rx, L) I E 0 [some (.ref 490), some (.ref 457), some (.ref x2), some (.int x3), none] [] [] [])
  obtain ⟨ug2, hg2, hf⟩ := q_bd hf
  refine q_blk 2 [] (c' := q_kc (t, r, m, z, N, ext, rx, L) I E 2 [some (.ref 490), some (.ref 457), some (.ref x2), some (.int x3), none] [.ref x2, .ref 50] [] []) ok_X8_obey rfl q_cn ?_
  refine q_kord (pos' := 3) ok_X8_obey rfl rfl (q_e49_lt hg2) (Nat.le_trans (Nat.le_of_ble_eq_true rfl) hd) (Nat.le_of_ble_eq_true rfl) (Nat.le_of_ble_eq_true rfl) (Nat.le_of_ble_eq_true rfl) rfl ?_
  obtain ⟨j1, hj1, hf⟩ := q_bd hf
  refine q_blk 1 [j1] (c' := q_kc (t, r, m, z, N, ext, rx, L) I E 4 [some (.ref 490), some (.ref 457), some (.ref x2), some (.int x3), none] [.int (q_sw j1)] [] []) ok_X8_obey rfl (q_cc hj1 q_cn) ?_
  refine q_ksw [11, 25, 18, 18, 18, 18, 18, 18, 18, 18, 18, 18, 25, 25, 25, 25, 5] ok_X8_obey rfl (dp := 25) rfl (fun ix t9 ht9 hx9 => ?_) (fun hx9 => ?_) (by decide) (by decide)
  · match ix, ht9 with
    | 0, ht9 =>
      have hx9 : (q_sw j1) = 5 := hx9
      cases ht9
      have hf := q_ip hx9 hf
      refine q_blk 3 [] (c' := q_kc (t, r, m, z, N, ext, rx, L) I E 14 [some (.ref 490), some (.ref 457), some (.ref x2), some (.int x3), none] [.ref 490, .int (1 : Int32), .ref 490] [] []) ok_X8_obey rfl q_cn ?_
      obtain ⟨r2, hr2, hf⟩ := q_bd hf
      refine q_kV (M2 := m_X8_pop) (As := []) (b := 490) (v2 := some (.int r2.1)) ok_X8_obey ok_X8_pop cv_X8_pop (ct_X8_pop_490 (d := 1) (Nat.le_refl _) hr2) rfl rfl (Or.inl rfl) rfl rfl rfl rfl (Nat.le_trans (Nat.le_of_ble_eq_true rfl) hd) (Nat.le_of_ble_eq_true rfl) (Nat.le_of_ble_eq_true rfl) (Nat.le_of_ble_eq_true rfl) (fun x hx => absurd hx List.not_mem_nil) (q_nmL0 _) (q_nmS0 _) rfl (pos' := 15) (st' := [.int r2.1, .int (1 : Int32), .ref 490]) (lI' := [(490, r2.2)]) (lE' := []) rfl rfl (q_mgw rfl rfl) rfl ?_
      refine q_blk 1 [] (c' := q_kc (t, r, m, z, N, ext, rx, L) I E 16 [some (.ref 490), some (.ref 457), some (.ref x2), some (.int x3), none] [.int ((1 : Int32) - r2.1), .ref 490] [(490, r2.2)] []) ok_X8_obey rfl q_cn ?_
      obtain ⟨r3, hr3, hf⟩ := q_bd hf
      refine q_kV (M2 := m_X8_push) (As := [.int ((1 : Int32) - r2.1)]) (b := 490) (v2 := none) ok_X8_obey ok_X8_push cv_X8_push (ct_X8_push_490 (d := 1) (Nat.le_refl _) hr3) rfl rfl (Or.inl rfl) rfl rfl rfl rfl (Nat.le_trans (Nat.le_of_ble_eq_true rfl) hd) (Nat.le_of_ble_eq_true rfl) (Nat.le_of_ble_eq_true rfl) (Nat.le_of_ble_eq_true rfl) (fun x hx => absurd hx List.not_mem_nil) (q_nmL0 _) (q_nmS0 _) rfl (pos' := 17) (st' := []) (lI' := [(490, r3.1), (491, r3.2)]) (lE' := []) rfl rfl (q_mgw rfl rfl) rfl ?_
      refine q_blk 1 [] (c' := q_kc (t, r, m, z, N, ext, rx, L) I E 35 [some (.ref 490), some (.ref 457), some (.ref x2), some (.int x3), none] [] [(490, r3.1), (491, r3.2)] []) ok_X8_obey rfl q_cn ?_
      cases hf
      exact q_krv ok_X8_obey rfl rfl (Nat.le_of_ble_eq_true rfl) (Nat.le_of_ble_eq_true rfl) ⟨rfl, q_hpe (q_pdw [490, 491] rfl rfl) (q_pdw [] rfl rfl)⟩
    | 1, ht9 =>
      have hx9 : (q_sw j1) = 6 := hx9
      cases ht9
      have hf := q_in (fun hz9 => absurd (hx9.symm.trans hz9) (by decide)) hf
      have hf := q_ip hx9 hf
      refine q_blk 1 [] (c' := q_kc (t, r, m, z, N, ext, rx, L) I E 26 [some (.ref 490), some (.ref 457), some (.ref x2), some (.int x3), none] [.ref 490] [] []) ok_X8_obey rfl q_cn ?_
      obtain ⟨r4, hr4, hf⟩ := q_bd hf
      refine q_kV (M2 := m_X8_pop) (As := []) (b := 490) (v2 := some (.int r4.1)) ok_X8_obey ok_X8_pop cv_X8_pop (ct_X8_pop_490 (d := 1) (Nat.le_refl _) hr4) rfl rfl (Or.inl rfl) rfl rfl rfl rfl (Nat.le_trans (Nat.le_of_ble_eq_true rfl) hd) (Nat.le_of_ble_eq_true rfl) (Nat.le_of_ble_eq_true rfl) (Nat.le_of_ble_eq_true rfl) (fun x hx => absurd hx List.not_mem_nil) (q_nmL0 _) (q_nmS0 _) rfl (pos' := 27) (st' := [.int r4.1]) (lI' := [(490, r4.2)]) (lE' := []) rfl rfl (q_mgw rfl rfl) rfl ?_
      refine q_blk 4 [] (c' := q_kc (t, r, m, z, N, ext, rx, L) I E 31 [some (.ref 490), some (.ref 457), some (.ref x2), some (.int x3), some (.int r4.1)] [.ref 490, .ref x2, .ref 490] [(490, r4.2)] []) ok_X8_obey rfl q_cn ?_
      obtain ⟨r5, hr5, hf⟩ := q_bd hf
      refine q_kV (M2 := m_X8_pop) (As := []) (b := 490) (v2 := some (.int r5.1)) ok_X8_obey ok_X8_pop cv_X8_pop (ct_X8_pop_490 (d := 1) (Nat.le_refl _) hr5) rfl rfl (Or.inl rfl) rfl rfl rfl rfl (Nat.le_trans (Nat.le_of_ble_eq_true rfl) hd) (Nat.le_of_ble_eq_true rfl) (Nat.le_of_ble_eq_true rfl) (Nat.le_of_ble_eq_true rfl) (fun x hx => absurd hx List.not_mem_nil) (q_nmL0 _) (q_nmS0 _) rfl (pos' := 32) (st' := [.int r5.1, .ref x2, .ref 490]) (lI' := [(490, r5.2)]) (lE' := []) rfl rfl (q_mgw rfl rfl) rfl ?_
      refine q_blk 1 [] (c' := q_kc (t, r, m, z, N, ext, rx, L) I E 33 [some (.ref 490), some (.ref 457), some (.ref x2), some (.int x3), some (.int r4.1)] [.int r4.1, .int r5.1, .ref x2, .ref 490] [(490, r5.2)] []) ok_X8_obey rfl q_cn ?_
      obtain ⟨r6, hr6, hf⟩ := q_bd hf
      refine q_kS (M2 := m_X8_joined) (As := [.ref x2, .int r5.1, .int r4.1]) (v2 := some (.int r6)) ok_X8_obey ok_X8_joined cs_X8_joined (ct_X8_joined (d := 2) (Nat.le_refl _) hr6) rfl rfl (Or.inl rfl) (Nat.le_trans (Nat.le_of_ble_eq_true rfl) hd) (Nat.le_of_ble_eq_true rfl) (Nat.le_of_ble_eq_true rfl) (Nat.le_of_ble_eq_true rfl) (fun x hx => absurd hx List.not_mem_nil) (q_nmL0 _) (q_nmS0 _) rfl (pos' := 34) (st' := [.int r6, .ref 490]) (lI' := [(490, r5.2)]) (lE' := []) rfl rfl rfl rfl ?_
      obtain ⟨r7, hr7, hf⟩ := q_bd hf
      refine q_kV (M2 := m_X8_push) (As := [.int r6]) (b := 490) (v2 := none) ok_X8_obey ok_X8_push cv_X8_push (ct_X8_push_490 (d := 1) (Nat.le_refl _) hr7) rfl rfl (Or.inl rfl) rfl rfl rfl rfl (Nat.le_trans (Nat.le_of_ble_eq_true rfl) hd) (Nat.le_of_ble_eq_true rfl) (Nat.le_of_ble_eq_true rfl) (Nat.le_of_ble_eq_true rfl) (fun x hx => absurd hx List.not_mem_nil) (q_nmL0 _) (q_nmS0 _) rfl (pos' := 35) (st' := []) (lI' := [(490, r7.1), (491, r7.2)]) (lE' := []) rfl rfl (q_mgw rfl rfl) rfl ?_
      cases hf
      exact q_krv ok_X8_obey rfl rfl (Nat.le_of_ble_eq_true rfl) (Nat.le_of_ble_eq_true rfl) ⟨rfl, q_hpe (q_pdw [490, 491] rfl rfl) (q_pdw [] rfl rfl)⟩
    | 2, ht9 =>
      have hx9 : (q_sw j1) = 7 := hx9
      cases ht9
      have hf := q_in (fun hz9 => absurd (hx9.symm.trans hz9) (by decide)) hf
      have hf := q_in (fun hz9 => absurd (hx9.symm.trans hz9) (by decide)) hf
      have hf := q_ip hx9 hf
      refine q_blk 4 [] (c' := q_kc (t, r, m, z, N, ext, rx, L) I E 22 [some (.ref 490), some (.ref 457), some (.ref x2), some (.int x3), none] [.int x3, .ref x2, .ref 457, .ref 490] [] []) ok_X8_obey rfl q_cn ?_
      obtain ⟨r8, hr8, hf⟩ := q_bd hf
      refine q_kS (M2 := m_X8_value) (As := [.ref 457, .ref x2, .int x3]) (v2 := some (.int r8)) ok_X8_obey ok_X8_value cs_X8_value (ct_X8_value_457 (d := 2) (Nat.le_refl _) hr8) rfl rfl (Or.inl rfl) (Nat.le_trans (Nat.le_of_ble_eq_true rfl) hd) (Nat.le_of_ble_eq_true rfl) (Nat.le_of_ble_eq_true rfl) (Nat.le_of_ble_eq_true rfl) (fun x hx => absurd hx List.not_mem_nil) (q_nmL0 _) (q_nmS0 _) rfl (pos' := 23) (st' := [.int r8, .ref 490]) (lI' := []) (lE' := []) rfl rfl rfl rfl ?_
      obtain ⟨r9, hr9, hf⟩ := q_bd hf
      refine q_kV (M2 := m_X8_push) (As := [.int r8]) (b := 490) (v2 := none) ok_X8_obey ok_X8_push cv_X8_push (ct_X8_push_490 (d := 1) (Nat.le_refl _) hr9) rfl rfl (Or.inl rfl) rfl rfl rfl rfl (Nat.le_trans (Nat.le_of_ble_eq_true rfl) hd) (Nat.le_of_ble_eq_true rfl) (Nat.le_of_ble_eq_true rfl) (Nat.le_of_ble_eq_true rfl) (fun x hx => absurd hx List.not_mem_nil) (q_nmL0 _) (q_nmS0 _) rfl (pos' := 24) (st' := []) (lI' := [(490, r9.1), (491, r9.2)]) (lE' := []) rfl rfl (q_mgw rfl rfl) rfl ?_
      refine q_blk 1 [] (c' := q_kc (t, r, m, z, N, ext, rx, L) I E 35 [some (.ref 490), some (.ref 457), some (.ref x2), some (.int x3), none] [] [(490, r9.1), (491, r9.2)] []) ok_X8_obey rfl q_cn ?_
      cases hf
      exact q_krv ok_X8_obey rfl rfl (Nat.le_of_ble_eq_true rfl) (Nat.le_of_ble_eq_true rfl) ⟨rfl, q_hpe (q_pdw [490, 491] rfl rfl) (q_pdw [] rfl rfl)⟩
    | 3, ht9 =>
      have hx9 : (q_sw j1) = 8 := hx9
      cases ht9
      have hf := q_in (fun hz9 => absurd (hx9.symm.trans hz9) (by decide)) hf
      have hf := q_in (fun hz9 => absurd (hx9.symm.trans hz9) (by decide)) hf
      have hf := q_in (fun hz9 => absurd (hx9.symm.trans hz9) (by decide)) hf
      have hf := q_ip hx9 hf
      refine q_blk 4 [] (c' := q_kc (t, r, m, z, N, ext, rx, L) I E 22 [some (.ref 490), some (.ref 457), some (.ref x2), some (.int x3), none] [.int x3, .ref x2, .ref 457, .ref 490] [] []) ok_X8_obey rfl q_cn ?_
      obtain ⟨r10, hr10, hf⟩ := q_bd hf
      refine q_kS (M2 := m_X8_value) (As := [.ref 457, .ref x2, .int x3]) (v2 := some (.int r10)) ok_X8_obey ok_X8_value cs_X8_value (ct_X8_value_457 (d := 2) (Nat.le_refl _) hr10) rfl rfl (Or.inl rfl) (Nat.le_trans (Nat.le_of_ble_eq_true rfl) hd) (Nat.le_of_ble_eq_true rfl) (Nat.le_of_ble_eq_true rfl) (Nat.le_of_ble_eq_true rfl) (fun x hx => absurd hx List.not_mem_nil) (q_nmL0 _) (q_nmS0 _) rfl (pos' := 23) (st' := [.int r10, .ref 490]) (lI' := []) (lE' := []) rfl rfl rfl rfl ?_
      obtain ⟨r11, hr11, hf⟩ := q_bd hf
      refine q_kV (M2 := m_X8_push) (As := [.int r10]) (b := 490) (v2 := none) ok_X8_obey ok_X8_push cv_X8_push (ct_X8_push_490 (d := 1) (Nat.le_refl _) hr11) rfl rfl (Or.inl rfl) rfl rfl rfl rfl (Nat.le_trans (Nat.le_of_ble_eq_true rfl) hd) (Nat.le_of_ble_eq_true rfl) (Nat.le_of_ble_eq_true rfl) (Nat.le_of_ble_eq_true rfl) (fun x hx => absurd hx List.not_mem_nil) (q_nmL0 _) (q_nmS0 _) rfl (pos' := 24) (st' := []) (lI' := [(490, r11.1), (491, r11.2)]) (lE' := []) rfl rfl (q_mgw rfl rfl) rfl ?_
      refine q_blk 1 [] (c' := q_kc (t, r, m, z, N, ext, rx, L) I E 35 [some (.ref 490), some (.ref 457), some (.ref x2), some (.int x3), none] [] [(490, r11.1), (491, r11.2)] []) ok_X8_obey rfl q_cn ?_
      cases hf
      exact q_krv ok_X8_obey rfl rfl (Nat.le_of_ble_eq_true rfl) (Nat.le_of_ble_eq_true rfl) ⟨rfl, q_hpe (q_pdw [490, 491] rfl rfl) (q_pdw [] rfl rfl)⟩
    | 4, ht9 =>
      have hx9 : (q_sw j1) = 9 := hx9
      cases ht9
      have hf := q_in (fun hz9 => absurd (hx9.symm.trans hz9) (by decide)) hf
      have hf := q_in (fun hz9 => absurd (hx9.symm.trans hz9) (by decide)) hf
      have hf := q_in (fun hz9 => absurd (hx9.symm.trans hz9) (by decide)) hf
      have hf := q_in (fun hz9 => absurd (hx9.symm.trans hz9) (by decide)) hf
      have hf := q_ip hx9 hf
      refine q_blk 4 [] (c' := q_kc (t, r, m, z, N, ext, rx, L) I E 22 [some (.ref 490), some (.ref 457), some (.ref x2), some (.int x3), none] [.int x3, .ref x2, .ref 457, .ref 490] [] []) ok_X8_obey rfl q_cn ?_
      obtain ⟨r12, hr12, hf⟩ := q_bd hf
      refine q_kS (M2 := m_X8_value) (As := [.ref 457, .ref x2, .int x3]) (v2 := some (.int r12)) ok_X8_obey ok_X8_value cs_X8_value (ct_X8_value_457 (d := 2) (Nat.le_refl _) hr12) rfl rfl (Or.inl rfl) (Nat.le_trans (Nat.le_of_ble_eq_true rfl) hd) (Nat.le_of_ble_eq_true rfl) (Nat.le_of_ble_eq_true rfl) (Nat.le_of_ble_eq_true rfl) (fun x hx => absurd hx List.not_mem_nil) (q_nmL0 _) (q_nmS0 _) rfl (pos' := 23) (st' := [.int r12, .ref 490]) (lI' := []) (lE' := []) rfl rfl rfl rfl ?_
      obtain ⟨r13, hr13, hf⟩ := q_bd hf
      refine q_kV (M2 := m_X8_push) (As := [.int r12]) (b := 490) (v2 := none) ok_X8_obey ok_X8_push cv_X8_push (ct_X8_push_490 (d := 1) (Nat.le_refl _) hr13) rfl rfl (Or.inl rfl) rfl rfl rfl rfl (Nat.le_trans (Nat.le_of_ble_eq_true rfl) hd) (Nat.le_of_ble_eq_true rfl) (Nat.le_of_ble_eq_true rfl) (Nat.le_of_ble_eq_true rfl) (fun x hx => absurd hx List.not_mem_nil) (q_nmL0 _) (q_nmS0 _) rfl (pos' := 24) (st' := []) (lI' := [(490, r13.1), (491, r13.2)]) (lE' := []) rfl rfl (q_mgw rfl rfl) rfl ?_
      refine q_blk 1 [] (c' := q_kc (t, r, m, z, N, ext, rx, L) I E 35 [some (.ref 490), some (.ref 457), some (.ref x2), some (.int x3), none] [] [(490, r13.1), (491, r13.2)] []) ok_X8_obey rfl q_cn ?_
      cases hf
      exact q_krv ok_X8_obey rfl rfl (Nat.le_of_ble_eq_true rfl) (Nat.le_of_ble_eq_true rfl) ⟨rfl, q_hpe (q_pdw [490, 491] rfl rfl) (q_pdw [] rfl rfl)⟩
    | 5, ht9 =>
      have hx9 : (q_sw j1) = 10 := hx9
      cases ht9
      have hf := q_in (fun hz9 => absurd (hx9.symm.trans hz9) (by decide)) hf
      have hf := q_in (fun hz9 => absurd (hx9.symm.trans hz9) (by decide)) hf
      have hf := q_in (fun hz9 => absurd (hx9.symm.trans hz9) (by decide)) hf
      have hf := q_in (fun hz9 => absurd (hx9.symm.trans hz9) (by decide)) hf
      have hf := q_in (fun hz9 => absurd (hx9.symm.trans hz9) (by decide)) hf
      have hf := q_ip hx9 hf
      refine q_blk 4 [] (c' := q_kc (t, r, m, z, N, ext, rx, L) I E 22 [some (.ref 490), some (.ref 457), some (.ref x2), some (.int x3), none] [.int x3, .ref x2, .ref 457, .ref 490] [] []) ok_X8_obey rfl q_cn ?_
      obtain ⟨r14, hr14, hf⟩ := q_bd hf
      refine q_kS (M2 := m_X8_value) (As := [.ref 457, .ref x2, .int x3]) (v2 := some (.int r14)) ok_X8_obey ok_X8_value cs_X8_value (ct_X8_value_457 (d := 2) (Nat.le_refl _) hr14) rfl rfl (Or.inl rfl) (Nat.le_trans (Nat.le_of_ble_eq_true rfl) hd) (Nat.le_of_ble_eq_true rfl) (Nat.le_of_ble_eq_true rfl) (Nat.le_of_ble_eq_true rfl) (fun x hx => absurd hx List.not_mem_nil) (q_nmL0 _) (q_nmS0 _) rfl (pos' := 23) (st' := [.int r14, .ref 490]) (lI' := []) (lE' := []) rfl rfl rfl rfl ?_
      obtain ⟨r15, hr15, hf⟩ := q_bd hf
      refine q_kV (M2 := m_X8_push) (As := [.int r14]) (b := 490) (v2 := none) ok_X8_obey ok_X8_push cv_X8_push (ct_X8_push_490 (d := 1) (Nat.le_refl _) hr15) rfl rfl (Or.inl rfl) rfl rfl rfl rfl (Nat.le_trans (Nat.le_of_ble_eq_true rfl) hd) (Nat.le_of_ble_eq_true rfl) (Nat.le_of_ble_eq_true rfl) (Nat.le_of_ble_eq_true rfl) (fun x hx => absurd hx List.not_mem_nil) (q_nmL0 _) (q_nmS0 _) rfl (pos' := 24) (st' := []) (lI' := [(490, r15.1), (491, r15.2)]) (lE' := []) rfl rfl (q_mgw rfl rfl) rfl ?_
      refine q_blk 1 [] (c' := q_kc (t, r, m, z, N, ext, rx, L) I E 35 [some (.ref 490), some (.ref 457), some (.ref x2), some (.int x3), none] [] [(490, r15.1), (491, r15.2)] []) ok_X8_obey rfl q_cn ?_
      cases hf
      exact q_krv ok_X8_obey rfl rfl (Nat.le_of_ble_eq_true rfl) (Nat.le_of_ble_eq_true rfl) ⟨rfl, q_hpe (q_pdw [490, 491] rfl rfl) (q_pdw [] rfl rfl)⟩
    | 6, ht9 =>
      have hx9 : (q_sw j1) = 11 := hx9
      cases ht9
      have hf := q_in (fun hz9 => absurd (hx9.symm.trans hz9) (by decide)) hf
      have hf := q_in (fun hz9 => absurd (hx9.symm.trans hz9) (by decide)) hf
      have hf := q_in (fun hz9 => absurd (hx9.symm.trans hz9) (by decide)) hf
      have hf := q_in (fun hz9 => absurd (hx9.symm.trans hz9) (by decide)) hf
      have hf := q_in (fun hz9 => absurd (hx9.symm.trans hz9) (by decide)) hf
      have hf := q_in (fun hz9 => absurd (hx9.symm.trans hz9) (by decide)) hf
      have hf := q_ip hx9 hf
      refine q_blk 4 [] (c' := q_kc (t, r, m, z, N, ext, rx, L) I E 22 [some (.ref 490), some (.ref 457), some (.ref x2), some (.int x3), none] [.int x3, .ref x2, .ref 457, .ref 490] [] []) ok_X8_obey rfl q_cn ?_
      obtain ⟨r16, hr16, hf⟩ := q_bd hf
      refine q_kS (M2 := m_X8_value) (As := [.ref 457, .ref x2, .int x3]) (v2 := some (.int r16)) ok_X8_obey ok_X8_value cs_X8_value (ct_X8_value_457 (d := 2) (Nat.le_refl _) hr16) rfl rfl (Or.inl rfl) (Nat.le_trans (Nat.le_of_ble_eq_true rfl) hd) (Nat.le_of_ble_eq_true rfl) (Nat.le_of_ble_eq_true rfl) (Nat.le_of_ble_eq_true rfl) (fun x hx => absurd hx List.not_mem_nil) (q_nmL0 _) (q_nmS0 _) rfl (pos' := 23) (st' := [.int r16, .ref 490]) (lI' := []) (lE' := []) rfl rfl rfl rfl ?_
      obtain ⟨r17, hr17, hf⟩ := q_bd hf
      refine q_kV (M2 := m_X8_push) (As := [.int r16]) (b := 490) (v2 := none) ok_X8_obey ok_X8_push cv_X8_push (ct_X8_push_490 (d := 1) (Nat.le_refl _) hr17) rfl rfl (Or.inl rfl) rfl rfl rfl rfl (Nat.le_trans (Nat.le_of_ble_eq_true rfl) hd) (Nat.le_of_ble_eq_true rfl) (Nat.le_of_ble_eq_true rfl) (Nat.le_of_ble_eq_true rfl) (fun x hx => absurd hx List.not_mem_nil) (q_nmL0 _) (q_nmS0 _) rfl (pos' := 24) (st' := []) (lI' := [(490, r17.1), (491, r17.2)]) (lE' := []) rfl rfl (q_mgw rfl rfl) rfl ?_
      refine q_blk 1 [] (c' := q_kc (t, r, m, z, N, ext, rx, L) I E 35 [some (.ref 490), some (.ref 457), some (.ref x2), some (.int x3), none] [] [(490, r17.1), (491, r17.2)] []) ok_X8_obey rfl q_cn ?_
      cases hf
      exact q_krv ok_X8_obey rfl rfl (Nat.le_of_ble_eq_true rfl) (Nat.le_of_ble_eq_true rfl) ⟨rfl, q_hpe (q_pdw [490, 491] rfl rfl) (q_pdw [] rfl rfl)⟩
    | 7, ht9 =>
      have hx9 : (q_sw j1) = 12 := hx9
      cases ht9
      have hf := q_in (fun hz9 => absurd (hx9.symm.trans hz9) (by decide)) hf
      have hf := q_in (fun hz9 => absurd (hx9.symm.trans hz9) (by decide)) hf
      have hf := q_in (fun hz9 => absurd (hx9.symm.trans hz9) (by decide)) hf
      have hf := q_in (fun hz9 => absurd (hx9.symm.trans hz9) (by decide)) hf
      have hf := q_in (fun hz9 => absurd (hx9.symm.trans hz9) (by decide)) hf
      have hf := q_in (fun hz9 => absurd (hx9.symm.trans hz9) (by decide)) hf
      have hf := q_in (fun hz9 => absurd (hx9.symm.trans hz9) (by decide)) hf
      have hf := q_ip hx9 hf
      refine q_blk 4 [] (c' := q_kc (t, r, m, z, N, ext, rx, L) I E 22 [some (.ref 490), some (.ref 457), some (.ref x2), some (.int x3), none] [.int x3, .ref x2, .ref 457, .ref 490] [] []) ok_X8_obey rfl q_cn ?_
      obtain ⟨r18, hr18, hf⟩ := q_bd hf
      refine q_kS (M2 := m_X8_value) (As := [.ref 457, .ref x2, .int x3]) (v2 := some (.int r18)) ok_X8_obey ok_X8_value cs_X8_value (ct_X8_value_457 (d := 2) (Nat.le_refl _) hr18) rfl rfl (Or.inl rfl) (Nat.le_trans (Nat.le_of_ble_eq_true rfl) hd) (Nat.le_of_ble_eq_true rfl) (Nat.le_of_ble_eq_true rfl) (Nat.le_of_ble_eq_true rfl) (fun x hx => absurd hx List.not_mem_nil) (q_nmL0 _) (q_nmS0 _) rfl (pos' := 23) (st' := [.int r18, .ref 490]) (lI' := []) (lE' := []) rfl rfl rfl rfl ?_
      obtain ⟨r19, hr19, hf⟩ := q_bd hf
      refine q_kV (M2 := m_X8_push) (As := [.int r18]) (b := 490) (v2 := none) ok_X8_obey ok_X8_push cv_X8_push (ct_X8_push_490 (d := 1) (Nat.le_refl _) hr19) rfl rfl (Or.inl rfl) rfl rfl rfl rfl (Nat.le_trans (Nat.le_of_ble_eq_true rfl) hd) (Nat.le_of_ble_eq_true rfl) (Nat.le_of_ble_eq_true rfl) (Nat.le_of_ble_eq_true rfl) (fun x hx => absurd hx List.not_mem_nil) (q_nmL0 _) (q_nmS0 _) rfl (pos' := 24) (st' := []) (lI' := [(490, r19.1), (491, r19.2)]) (lE' := []) rfl rfl (q_mgw rfl rfl) rfl ?_
      refine q_blk 1 [] (c' := q_kc (t, r, m, z, N, ext, rx, L) I E 35 [some (.ref 490), some (.ref 457), some (.ref x2), some (.int x3), none] [] [(490, r19.1), (491, r19.2)] []) ok_X8_obey rfl q_cn ?_
      cases hf
      exact q_krv ok_X8_obey rfl rfl (Nat.le_of_ble_eq_true rfl) (Nat.le_of_ble_eq_true rfl) ⟨rfl, q_hpe (q_pdw [490, 491] rfl rfl) (q_pdw [] rfl rfl)⟩
    | 8, ht9 =>
      have hx9 : (q_sw j1) = 13 := hx9
      cases ht9
      have hf := q_in (fun hz9 => absurd (hx9.symm.trans hz9) (by decide)) hf
      have hf := q_in (fun hz9 => absurd (hx9.symm.trans hz9) (by decide)) hf
      have hf := q_in (fun hz9 => absurd (hx9.symm.trans hz9) (by decide)) hf
      have hf := q_in (fun hz9 => absurd (hx9.symm.trans hz9) (by decide)) hf
      have hf := q_in (fun hz9 => absurd (hx9.symm.trans hz9) (by decide)) hf
      have hf := q_in (fun hz9 => absurd (hx9.symm.trans hz9) (by decide)) hf
      have hf := q_in (fun hz9 => absurd (hx9.symm.trans hz9) (by decide)) hf
      have hf := q_in (fun hz9 => absurd (hx9.symm.trans hz9) (by decide)) hf
      have hf := q_ip hx9 hf
      refine q_blk 4 [] (c' := q_kc (t, r, m, z, N, ext, rx, L) I E 22 [some (.ref 490), some (.ref 457), some (.ref x2), some (.int x3), none] [.int x3, .ref x2, .ref 457, .ref 490] [] []) ok_X8_obey rfl q_cn ?_
      obtain ⟨r20, hr20, hf⟩ := q_bd hf
      refine q_kS (M2 := m_X8_value) (As := [.ref 457, .ref x2, .int x3]) (v2 := some (.int r20)) ok_X8_obey ok_X8_value cs_X8_value (ct_X8_value_457 (d := 2) (Nat.le_refl _) hr20) rfl rfl (Or.inl rfl) (Nat.le_trans (Nat.le_of_ble_eq_true rfl) hd) (Nat.le_of_ble_eq_true rfl) (Nat.le_of_ble_eq_true rfl) (Nat.le_of_ble_eq_true rfl) (fun x hx => absurd hx List.not_mem_nil) (q_nmL0 _) (q_nmS0 _) rfl (pos' := 23) (st' := [.int r20, .ref 490]) (lI' := []) (lE' := []) rfl rfl rfl rfl ?_
      obtain ⟨r21, hr21, hf⟩ := q_bd hf
      refine q_kV (M2 := m_X8_push) (As := [.int r20]) (b := 490) (v2 := none) ok_X8_obey ok_X8_push cv_X8_push (ct_X8_push_490 (d := 1) (Nat.le_refl _) hr21) rfl rfl (Or.inl rfl) rfl rfl rfl rfl (Nat.le_trans (Nat.le_of_ble_eq_true rfl) hd) (Nat.le_of_ble_eq_true rfl) (Nat.le_of_ble_eq_true rfl) (Nat.le_of_ble_eq_true rfl) (fun x hx => absurd hx List.not_mem_nil) (q_nmL0 _) (q_nmS0 _) rfl (pos' := 24) (st' := []) (lI' := [(490, r21.1), (491, r21.2)]) (lE' := []) rfl rfl (q_mgw rfl rfl) rfl ?_
      refine q_blk 1 [] (c' := q_kc (t, r, m, z, N, ext, rx, L) I E 35 [some (.ref 490), some (.ref 457), some (.ref x2), some (.int x3), none] [] [(490, r21.1), (491, r21.2)] []) ok_X8_obey rfl q_cn ?_
      cases hf
      exact q_krv ok_X8_obey rfl rfl (Nat.le_of_ble_eq_true rfl) (Nat.le_of_ble_eq_true rfl) ⟨rfl, q_hpe (q_pdw [490, 491] rfl rfl) (q_pdw [] rfl rfl)⟩
    | 9, ht9 =>
      have hx9 : (q_sw j1) = 14 := hx9
      cases ht9
      have hf := q_in (fun hz9 => absurd (hx9.symm.trans hz9) (by decide)) hf
      have hf := q_in (fun hz9 => absurd (hx9.symm.trans hz9) (by decide)) hf
      have hf := q_in (fun hz9 => absurd (hx9.symm.trans hz9) (by decide)) hf
      have hf := q_in (fun hz9 => absurd (hx9.symm.trans hz9) (by decide)) hf
      have hf := q_in (fun hz9 => absurd (hx9.symm.trans hz9) (by decide)) hf
      have hf := q_in (fun hz9 => absurd (hx9.symm.trans hz9) (by decide)) hf
      have hf := q_in (fun hz9 => absurd (hx9.symm.trans hz9) (by decide)) hf
      have hf := q_in (fun hz9 => absurd (hx9.symm.trans hz9) (by decide)) hf
      have hf := q_in (fun hz9 => absurd (hx9.symm.trans hz9) (by decide)) hf
      have hf := q_ip hx9 hf
      refine q_blk 4 [] (c' := q_kc (t, r, m, z, N, ext, rx, L) I E 22 [some (.ref 490), some (.ref 457), some (.ref x2), some (.int x3), none] [.int x3, .ref x2, .ref 457, .ref 490] [] []) ok_X8_obey rfl q_cn ?_
      obtain ⟨r22, hr22, hf⟩ := q_bd hf
      refine q_kS (M2 := m_X8_value) (As := [.ref 457, .ref x2, .int x3]) (v2 := some (.int r22)) ok_X8_obey ok_X8_value cs_X8_value (ct_X8_value_457 (d := 2) (Nat.le_refl _) hr22) rfl rfl (Or.inl rfl) (Nat.le_trans (Nat.le_of_ble_eq_true rfl) hd) (Nat.le_of_ble_eq_true rfl) (Nat.le_of_ble_eq_true rfl) (Nat.le_of_ble_eq_true rfl) (fun x hx => absurd hx List.not_mem_nil) (q_nmL0 _) (q_nmS0 _) rfl (pos' := 23) (st' := [.int r22, .ref 490]) (lI' := []) (lE' := []) rfl rfl rfl rfl ?_
      obtain ⟨r23, hr23, hf⟩ := q_bd hf
      refine q_kV (M2 := m_X8_push) (As := [.int r22]) (b := 490) (v2 := none) ok_X8_obey ok_X8_push cv_X8_push (ct_X8_push_490 (d := 1) (Nat.le_refl _) hr23) rfl rfl (Or.inl rfl) rfl rfl rfl rfl (Nat.le_trans (Nat.le_of_ble_eq_true rfl) hd) (Nat.le_of_ble_eq_true rfl) (Nat.le_of_ble_eq_true rfl) (Nat.le_of_ble_eq_true rfl) (fun x hx => absurd hx List.not_mem_nil) (q_nmL0 _) (q_nmS0 _) rfl (pos' := 24) (st' := []) (lI' := [(490, r23.1), (491, r23.2)]) (lE' := []) rfl rfl (q_mgw rfl rfl) rfl ?_
      refine q_blk 1 [] (c' := q_kc (t, r, m, z, N, ext, rx, L) I E 35 [some (.ref 490), some (.ref 457), some (.ref x2), some (.int x3), none] [] [(490, r23.1), (491, r23.2)] []) ok_X8_obey rfl q_cn ?_
      cases hf
      exact q_krv ok_X8_obey rfl rfl (Nat.le_of_ble_eq_true rfl) (Nat.le_of_ble_eq_true rfl) ⟨rfl, q_hpe (q_pdw [490, 491] rfl rfl) (q_pdw [] rfl rfl)⟩
    | 10, ht9 =>
      have hx9 : (q_sw j1) = 15 := hx9
      cases ht9
      have hf := q_in (fun hz9 => absurd (hx9.symm.trans hz9) (by decide)) hf
      have hf := q_in (fun hz9 => absurd (hx9.symm.trans hz9) (by decide)) hf
      have hf := q_in (fun hz9 => absurd (hx9.symm.trans hz9) (by decide)) hf
      have hf := q_in (fun hz9 => absurd (hx9.symm.trans hz9) (by decide)) hf
      have hf := q_in (fun hz9 => absurd (hx9.symm.trans hz9) (by decide)) hf
      have hf := q_in (fun hz9 => absurd (hx9.symm.trans hz9) (by decide)) hf
      have hf := q_in (fun hz9 => absurd (hx9.symm.trans hz9) (by decide)) hf
      have hf := q_in (fun hz9 => absurd (hx9.symm.trans hz9) (by decide)) hf
      have hf := q_in (fun hz9 => absurd (hx9.symm.trans hz9) (by decide)) hf
      have hf := q_in (fun hz9 => absurd (hx9.symm.trans hz9) (by decide)) hf
      have hf := q_ip hx9 hf
      refine q_blk 4 [] (c' := q_kc (t, r, m, z, N, ext, rx, L) I E 22 [some (.ref 490), some (.ref 457), some (.ref x2), some (.int x3), none] [.int x3, .ref x2, .ref 457, .ref 490] [] []) ok_X8_obey rfl q_cn ?_
      obtain ⟨r24, hr24, hf⟩ := q_bd hf
      refine q_kS (M2 := m_X8_value) (As := [.ref 457, .ref x2, .int x3]) (v2 := some (.int r24)) ok_X8_obey ok_X8_value cs_X8_value (ct_X8_value_457 (d := 2) (Nat.le_refl _) hr24) rfl rfl (Or.inl rfl) (Nat.le_trans (Nat.le_of_ble_eq_true rfl) hd) (Nat.le_of_ble_eq_true rfl) (Nat.le_of_ble_eq_true rfl) (Nat.le_of_ble_eq_true rfl) (fun x hx => absurd hx List.not_mem_nil) (q_nmL0 _) (q_nmS0 _) rfl (pos' := 23) (st' := [.int r24, .ref 490]) (lI' := []) (lE' := []) rfl rfl rfl rfl ?_
      obtain ⟨r25, hr25, hf⟩ := q_bd hf
      refine q_kV (M2 := m_X8_push) (As := [.int r24]) (b := 490) (v2 := none) ok_X8_obey ok_X8_push cv_X8_push (ct_X8_push_490 (d := 1) (Nat.le_refl _) hr25) rfl rfl (Or.inl rfl) rfl rfl rfl rfl (Nat.le_trans (Nat.le_of_ble_eq_true rfl) hd) (Nat.le_of_ble_eq_true rfl) (Nat.le_of_ble_eq_true rfl) (Nat.le_of_ble_eq_true rfl) (fun x hx => absurd hx List.not_mem_nil) (q_nmL0 _) (q_nmS0 _) rfl (pos' := 24) (st' := []) (lI' := [(490, r25.1), (491, r25.2)]) (lE' := []) rfl rfl (q_mgw rfl rfl) rfl ?_
      refine q_blk 1 [] (c' := q_kc (t, r, m, z, N, ext, rx, L) I E 35 [some (.ref 490), some (.ref 457), some (.ref x2), some (.int x3), none] [] [(490, r25.1), (491, r25.2)] []) ok_X8_obey rfl q_cn ?_
      cases hf
      exact q_krv ok_X8_obey rfl rfl (Nat.le_of_ble_eq_true rfl) (Nat.le_of_ble_eq_true rfl) ⟨rfl, q_hpe (q_pdw [490, 491] rfl rfl) (q_pdw [] rfl rfl)⟩
    | 11, ht9 =>
      have hx9 : (q_sw j1) = 16 := hx9
      cases ht9
      have hf := q_in (fun hz9 => absurd (hx9.symm.trans hz9) (by decide)) hf
      have hf := q_in (fun hz9 => absurd (hx9.symm.trans hz9) (by decide)) hf
      have hf := q_in (fun hz9 => absurd (hx9.symm.trans hz9) (by decide)) hf
      have hf := q_in (fun hz9 => absurd (hx9.symm.trans hz9) (by decide)) hf
      have hf := q_in (fun hz9 => absurd (hx9.symm.trans hz9) (by decide)) hf
      have hf := q_in (fun hz9 => absurd (hx9.symm.trans hz9) (by decide)) hf
      have hf := q_in (fun hz9 => absurd (hx9.symm.trans hz9) (by decide)) hf
      have hf := q_in (fun hz9 => absurd (hx9.symm.trans hz9) (by decide)) hf
      have hf := q_in (fun hz9 => absurd (hx9.symm.trans hz9) (by decide)) hf
      have hf := q_in (fun hz9 => absurd (hx9.symm.trans hz9) (by decide)) hf
      have hf := q_in (fun hz9 => absurd (hx9.symm.trans hz9) (by decide)) hf
      have hf := q_ip hx9 hf
      refine q_blk 4 [] (c' := q_kc (t, r, m, z, N, ext, rx, L) I E 22 [some (.ref 490), some (.ref 457), some (.ref x2), some (.int x3), none] [.int x3, .ref x2, .ref 457, .ref 490] [] []) ok_X8_obey rfl q_cn ?_
      obtain ⟨r26, hr26, hf⟩ := q_bd hf
      refine q_kS (M2 := m_X8_value) (As := [.ref 457, .ref x2, .int x3]) (v2 := some (.int r26)) ok_X8_obey ok_X8_value cs_X8_value (ct_X8_value_457 (d := 2) (Nat.le_refl _) hr26) rfl rfl (Or.inl rfl) (Nat.le_trans (Nat.le_of_ble_eq_true rfl) hd) (Nat.le_of_ble_eq_true rfl) (Nat.le_of_ble_eq_true rfl) (Nat.le_of_ble_eq_true rfl) (fun x hx => absurd hx List.not_mem_nil) (q_nmL0 _) (q_nmS0 _) rfl (pos' := 23) (st' := [.int r26, .ref 490]) (lI' := []) (lE' := []) rfl rfl rfl rfl ?_
      obtain ⟨r27, hr27, hf⟩ := q_bd hf
      refine q_kV (M2 := m_X8_push) (As := [.int r26]) (b := 490) (v2 := none) ok_X8_obey ok_X8_push cv_X8_push (ct_X8_push_490 (d := 1) (Nat.le_refl _) hr27) rfl rfl (Or.inl rfl) rfl rfl rfl rfl (Nat.le_trans (Nat.le_of_ble_eq_true rfl) hd) (Nat.le_of_ble_eq_true rfl) (Nat.le_of_ble_eq_true rfl) (Nat.le_of_ble_eq_true rfl) (fun x hx => absurd hx List.not_mem_nil) (q_nmL0 _) (q_nmS0 _) rfl (pos' := 24) (st' := []) (lI' := [(490, r27.1), (491, r27.2)]) (lE' := []) rfl rfl (q_mgw rfl rfl) rfl ?_
      refine q_blk 1 [] (c' := q_kc (t, r, m, z, N, ext, rx, L) I E 35 [some (.ref 490), some (.ref 457), some (.ref x2), some (.int x3), none] [] [(490, r27.1), (491, r27.2)] []) ok_X8_obey rfl q_cn ?_
      cases hf
      exact q_krv ok_X8_obey rfl rfl (Nat.le_of_ble_eq_true rfl) (Nat.le_of_ble_eq_true rfl) ⟨rfl, q_hpe (q_pdw [490, 491] rfl rfl) (q_pdw [] rfl rfl)⟩
    | 12, ht9 =>
      have hx9 : (q_sw j1) = 17 := hx9
      cases ht9
      have hf := q_in (fun hz9 => absurd (hx9.symm.trans hz9) (by decide)) hf
      have hf := q_in (fun hz9 => absurd (hx9.symm.trans hz9) (by decide)) hf
      have hf := q_in (fun hz9 => absurd (hx9.symm.trans hz9) (by decide)) hf
      have hf := q_in (fun hz9 => absurd (hx9.symm.trans hz9) (by decide)) hf
      have hf := q_in (fun hz9 => absurd (hx9.symm.trans hz9) (by decide)) hf
      have hf := q_in (fun hz9 => absurd (hx9.symm.trans hz9) (by decide)) hf
      have hf := q_in (fun hz9 => absurd (hx9.symm.trans hz9) (by decide)) hf
      have hf := q_in (fun hz9 => absurd (hx9.symm.trans hz9) (by decide)) hf
      have hf := q_in (fun hz9 => absurd (hx9.symm.trans hz9) (by decide)) hf
      have hf := q_in (fun hz9 => absurd (hx9.symm.trans hz9) (by decide)) hf
      have hf := q_in (fun hz9 => absurd (hx9.symm.trans hz9) (by decide)) hf
      have hf := q_in (fun hz9 => absurd (hx9.symm.trans hz9) (by decide)) hf
      have hf := q_ip hx9 hf
      refine q_blk 1 [] (c' := q_kc (t, r, m, z, N, ext, rx, L) I E 26 [some (.ref 490), some (.ref 457), some (.ref x2), some (.int x3), none] [.ref 490] [] []) ok_X8_obey rfl q_cn ?_
      obtain ⟨r28, hr28, hf⟩ := q_bd hf
      refine q_kV (M2 := m_X8_pop) (As := []) (b := 490) (v2 := some (.int r28.1)) ok_X8_obey ok_X8_pop cv_X8_pop (ct_X8_pop_490 (d := 1) (Nat.le_refl _) hr28) rfl rfl (Or.inl rfl) rfl rfl rfl rfl (Nat.le_trans (Nat.le_of_ble_eq_true rfl) hd) (Nat.le_of_ble_eq_true rfl) (Nat.le_of_ble_eq_true rfl) (Nat.le_of_ble_eq_true rfl) (fun x hx => absurd hx List.not_mem_nil) (q_nmL0 _) (q_nmS0 _) rfl (pos' := 27) (st' := [.int r28.1]) (lI' := [(490, r28.2)]) (lE' := []) rfl rfl (q_mgw rfl rfl) rfl ?_
      refine q_blk 4 [] (c' := q_kc (t, r, m, z, N, ext, rx, L) I E 31 [some (.ref 490), some (.ref 457), some (.ref x2), some (.int x3), some (.int r28.1)] [.ref 490, .ref x2, .ref 490] [(490, r28.2)] []) ok_X8_obey rfl q_cn ?_
      obtain ⟨r29, hr29, hf⟩ := q_bd hf
      refine q_kV (M2 := m_X8_pop) (As := []) (b := 490) (v2 := some (.int r29.1)) ok_X8_obey ok_X8_pop cv_X8_pop (ct_X8_pop_490 (d := 1) (Nat.le_refl _) hr29) rfl rfl (Or.inl rfl) rfl rfl rfl rfl (Nat.le_trans (Nat.le_of_ble_eq_true rfl) hd) (Nat.le_of_ble_eq_true rfl) (Nat.le_of_ble_eq_true rfl) (Nat.le_of_ble_eq_true rfl) (fun x hx => absurd hx List.not_mem_nil) (q_nmL0 _) (q_nmS0 _) rfl (pos' := 32) (st' := [.int r29.1, .ref x2, .ref 490]) (lI' := [(490, r29.2)]) (lE' := []) rfl rfl (q_mgw rfl rfl) rfl ?_
      refine q_blk 1 [] (c' := q_kc (t, r, m, z, N, ext, rx, L) I E 33 [some (.ref 490), some (.ref 457), some (.ref x2), some (.int x3), some (.int r28.1)] [.int r28.1, .int r29.1, .ref x2, .ref 490] [(490, r29.2)] []) ok_X8_obey rfl q_cn ?_
      obtain ⟨r30, hr30, hf⟩ := q_bd hf
      refine q_kS (M2 := m_X8_joined) (As := [.ref x2, .int r29.1, .int r28.1]) (v2 := some (.int r30)) ok_X8_obey ok_X8_joined cs_X8_joined (ct_X8_joined (d := 2) (Nat.le_refl _) hr30) rfl rfl (Or.inl rfl) (Nat.le_trans (Nat.le_of_ble_eq_true rfl) hd) (Nat.le_of_ble_eq_true rfl) (Nat.le_of_ble_eq_true rfl) (Nat.le_of_ble_eq_true rfl) (fun x hx => absurd hx List.not_mem_nil) (q_nmL0 _) (q_nmS0 _) rfl (pos' := 34) (st' := [.int r30, .ref 490]) (lI' := [(490, r29.2)]) (lE' := []) rfl rfl rfl rfl ?_
      obtain ⟨r31, hr31, hf⟩ := q_bd hf
      refine q_kV (M2 := m_X8_push) (As := [.int r30]) (b := 490) (v2 := none) ok_X8_obey ok_X8_push cv_X8_push (ct_X8_push_490 (d := 1) (Nat.le_refl _) hr31) rfl rfl (Or.inl rfl) rfl rfl rfl rfl (Nat.le_trans (Nat.le_of_ble_eq_true rfl) hd) (Nat.le_of_ble_eq_true rfl) (Nat.le_of_ble_eq_true rfl) (Nat.le_of_ble_eq_true rfl) (fun x hx => absurd hx List.not_mem_nil) (q_nmL0 _) (q_nmS0 _) rfl (pos' := 35) (st' := []) (lI' := [(490, r31.1), (491, r31.2)]) (lE' := []) rfl rfl (q_mgw rfl rfl) rfl ?_
      cases hf
      exact q_krv ok_X8_obey rfl rfl (Nat.le_of_ble_eq_true rfl) (Nat.le_of_ble_eq_true rfl) ⟨rfl, q_hpe (q_pdw [490, 491] rfl rfl) (q_pdw [] rfl rfl)⟩
    | 13, ht9 =>
      have hx9 : (q_sw j1) = 18 := hx9
      cases ht9
      have hf := q_in (fun hz9 => absurd (hx9.symm.trans hz9) (by decide)) hf
      have hf := q_in (fun hz9 => absurd (hx9.symm.trans hz9) (by decide)) hf
      have hf := q_in (fun hz9 => absurd (hx9.symm.trans hz9) (by decide)) hf
      have hf := q_in (fun hz9 => absurd (hx9.symm.trans hz9) (by decide)) hf
      have hf := q_in (fun hz9 => absurd (hx9.symm.trans hz9) (by decide)) hf
      have hf := q_in (fun hz9 => absurd (hx9.symm.trans hz9) (by decide)) hf
      have hf := q_in (fun hz9 => absurd (hx9.symm.trans hz9) (by decide)) hf
      have hf := q_in (fun hz9 => absurd (hx9.symm.trans hz9) (by decide)) hf
      have hf := q_in (fun hz9 => absurd (hx9.symm.trans hz9) (by decide)) hf
      have hf := q_in (fun hz9 => absurd (hx9.symm.trans hz9) (by decide)) hf
      have hf := q_in (fun hz9 => absurd (hx9.symm.trans hz9) (by decide)) hf
      have hf := q_in (fun hz9 => absurd (hx9.symm.trans hz9) (by decide)) hf
      have hf := q_in (fun hz9 => absurd (hx9.symm.trans hz9) (by decide)) hf
      have hf := q_ip hx9 hf
      refine q_blk 1 [] (c' := q_kc (t, r, m, z, N, ext, rx, L) I E 26 [some (.ref 490), some (.ref 457), some (.ref x2), some (.int x3), none] [.ref 490] [] []) ok_X8_obey rfl q_cn ?_
      obtain ⟨r32, hr32, hf⟩ := q_bd hf
      refine q_kV (M2 := m_X8_pop) (As := []) (b := 490) (v2 := some (.int r32.1)) ok_X8_obey ok_X8_pop cv_X8_pop (ct_X8_pop_490 (d := 1) (Nat.le_refl _) hr32) rfl rfl (Or.inl rfl) rfl rfl rfl rfl (Nat.le_trans (Nat.le_of_ble_eq_true rfl) hd) (Nat.le_of_ble_eq_true rfl) (Nat.le_of_ble_eq_true rfl) (Nat.le_of_ble_eq_true rfl) (fun x hx => absurd hx List.not_mem_nil) (q_nmL0 _) (q_nmS0 _) rfl (pos' := 27) (st' := [.int r32.1]) (lI' := [(490, r32.2)]) (lE' := []) rfl rfl (q_mgw rfl rfl) rfl ?_
      refine q_blk 4 [] (c' := q_kc (t, r, m, z, N, ext, rx, L) I E 31 [some (.ref 490), some (.ref 457), some (.ref x2), some (.int x3), some (.int r32.1)] [.ref 490, .ref x2, .ref 490] [(490, r32.2)] []) ok_X8_obey rfl q_cn ?_
      obtain ⟨r33, hr33, hf⟩ := q_bd hf
      refine q_kV (M2 := m_X8_pop) (As := []) (b := 490) (v2 := some (.int r33.1)) ok_X8_obey ok_X8_pop cv_X8_pop (ct_X8_pop_490 (d := 1) (Nat.le_refl _) hr33) rfl rfl (Or.inl rfl) rfl rfl rfl rfl (Nat.le_trans (Nat.le_of_ble_eq_true rfl) hd) (Nat.le_of_ble_eq_true rfl) (Nat.le_of_ble_eq_true rfl) (Nat.le_of_ble_eq_true rfl) (fun x hx => absurd hx List.not_mem_nil) (q_nmL0 _) (q_nmS0 _) rfl (pos' := 32) (st' := [.int r33.1, .ref x2, .ref 490]) (lI' := [(490, r33.2)]) (lE' := []) rfl rfl (q_mgw rfl rfl) rfl ?_
      refine q_blk 1 [] (c' := q_kc (t, r, m, z, N, ext, rx, L) I E 33 [some (.ref 490), some (.ref 457), some (.ref x2), some (.int x3), some (.int r32.1)] [.int r32.1, .int r33.1, .ref x2, .ref 490] [(490, r33.2)] []) ok_X8_obey rfl q_cn ?_
      obtain ⟨r34, hr34, hf⟩ := q_bd hf
      refine q_kS (M2 := m_X8_joined) (As := [.ref x2, .int r33.1, .int r32.1]) (v2 := some (.int r34)) ok_X8_obey ok_X8_joined cs_X8_joined (ct_X8_joined (d := 2) (Nat.le_refl _) hr34) rfl rfl (Or.inl rfl) (Nat.le_trans (Nat.le_of_ble_eq_true rfl) hd) (Nat.le_of_ble_eq_true rfl) (Nat.le_of_ble_eq_true rfl) (Nat.le_of_ble_eq_true rfl) (fun x hx => absurd hx List.not_mem_nil) (q_nmL0 _) (q_nmS0 _) rfl (pos' := 34) (st' := [.int r34, .ref 490]) (lI' := [(490, r33.2)]) (lE' := []) rfl rfl rfl rfl ?_
      obtain ⟨r35, hr35, hf⟩ := q_bd hf
      refine q_kV (M2 := m_X8_push) (As := [.int r34]) (b := 490) (v2 := none) ok_X8_obey ok_X8_push cv_X8_push (ct_X8_push_490 (d := 1) (Nat.le_refl _) hr35) rfl rfl (Or.inl rfl) rfl rfl rfl rfl (Nat.le_trans (Nat.le_of_ble_eq_true rfl) hd) (Nat.le_of_ble_eq_true rfl) (Nat.le_of_ble_eq_true rfl) (Nat.le_of_ble_eq_true rfl) (fun x hx => absurd hx List.not_mem_nil) (q_nmL0 _) (q_nmS0 _) rfl (pos' := 35) (st' := []) (lI' := [(490, r35.1), (491, r35.2)]) (lE' := []) rfl rfl (q_mgw rfl rfl) rfl ?_
      cases hf
      exact q_krv ok_X8_obey rfl rfl (Nat.le_of_ble_eq_true rfl) (Nat.le_of_ble_eq_true rfl) ⟨rfl, q_hpe (q_pdw [490, 491] rfl rfl) (q_pdw [] rfl rfl)⟩
    | 14, ht9 =>
      have hx9 : (q_sw j1) = 19 := hx9
      cases ht9
      have hf := q_in (fun hz9 => absurd (hx9.symm.trans hz9) (by decide)) hf
      have hf := q_in (fun hz9 => absurd (hx9.symm.trans hz9) (by decide)) hf
      have hf := q_in (fun hz9 => absurd (hx9.symm.trans hz9) (by decide)) hf
      have hf := q_in (fun hz9 => absurd (hx9.symm.trans hz9) (by decide)) hf
      have hf := q_in (fun hz9 => absurd (hx9.symm.trans hz9) (by decide)) hf
      have hf := q_in (fun hz9 => absurd (hx9.symm.trans hz9) (by decide)) hf
      have hf := q_in (fun hz9 => absurd (hx9.symm.trans hz9) (by decide)) hf
      have hf := q_in (fun hz9 => absurd (hx9.symm.trans hz9) (by decide)) hf
      have hf := q_in (fun hz9 => absurd (hx9.symm.trans hz9) (by decide)) hf
      have hf := q_in (fun hz9 => absurd (hx9.symm.trans hz9) (by decide)) hf
      have hf := q_in (fun hz9 => absurd (hx9.symm.trans hz9) (by decide)) hf
      have hf := q_in (fun hz9 => absurd (hx9.symm.trans hz9) (by decide)) hf
      have hf := q_in (fun hz9 => absurd (hx9.symm.trans hz9) (by decide)) hf
      have hf := q_in (fun hz9 => absurd (hx9.symm.trans hz9) (by decide)) hf
      have hf := q_ip hx9 hf
      refine q_blk 1 [] (c' := q_kc (t, r, m, z, N, ext, rx, L) I E 26 [some (.ref 490), some (.ref 457), some (.ref x2), some (.int x3), none] [.ref 490] [] []) ok_X8_obey rfl q_cn ?_
      obtain ⟨r36, hr36, hf⟩ := q_bd hf
      refine q_kV (M2 := m_X8_pop) (As := []) (b := 490) (v2 := some (.int r36.1)) ok_X8_obey ok_X8_pop cv_X8_pop (ct_X8_pop_490 (d := 1) (Nat.le_refl _) hr36) rfl rfl (Or.inl rfl) rfl rfl rfl rfl (Nat.le_trans (Nat.le_of_ble_eq_true rfl) hd) (Nat.le_of_ble_eq_true rfl) (Nat.le_of_ble_eq_true rfl) (Nat.le_of_ble_eq_true rfl) (fun x hx => absurd hx List.not_mem_nil) (q_nmL0 _) (q_nmS0 _) rfl (pos' := 27) (st' := [.int r36.1]) (lI' := [(490, r36.2)]) (lE' := []) rfl rfl (q_mgw rfl rfl) rfl ?_
      refine q_blk 4 [] (c' := q_kc (t, r, m, z, N, ext, rx, L) I E 31 [some (.ref 490), some (.ref 457), some (.ref x2), some (.int x3), some (.int r36.1)] [.ref 490, .ref x2, .ref 490] [(490, r36.2)] []) ok_X8_obey rfl q_cn ?_
      obtain ⟨r37, hr37, hf⟩ := q_bd hf
      refine q_kV (M2 := m_X8_pop) (As := []) (b := 490) (v2 := some (.int r37.1)) ok_X8_obey ok_X8_pop cv_X8_pop (ct_X8_pop_490 (d := 1) (Nat.le_refl _) hr37) rfl rfl (Or.inl rfl) rfl rfl rfl rfl (Nat.le_trans (Nat.le_of_ble_eq_true rfl) hd) (Nat.le_of_ble_eq_true rfl) (Nat.le_of_ble_eq_true rfl) (Nat.le_of_ble_eq_true rfl) (fun x hx => absurd hx List.not_mem_nil) (q_nmL0 _) (q_nmS0 _) rfl (pos' := 32) (st' := [.int r37.1, .ref x2, .ref 490]) (lI' := [(490, r37.2)]) (lE' := []) rfl rfl (q_mgw rfl rfl) rfl ?_
      refine q_blk 1 [] (c' := q_kc (t, r, m, z, N, ext, rx, L) I E 33 [some (.ref 490), some (.ref 457), some (.ref x2), some (.int x3), some (.int r36.1)] [.int r36.1, .int r37.1, .ref x2, .ref 490] [(490, r37.2)] []) ok_X8_obey rfl q_cn ?_
      obtain ⟨r38, hr38, hf⟩ := q_bd hf
      refine q_kS (M2 := m_X8_joined) (As := [.ref x2, .int r37.1, .int r36.1]) (v2 := some (.int r38)) ok_X8_obey ok_X8_joined cs_X8_joined (ct_X8_joined (d := 2) (Nat.le_refl _) hr38) rfl rfl (Or.inl rfl) (Nat.le_trans (Nat.le_of_ble_eq_true rfl) hd) (Nat.le_of_ble_eq_true rfl) (Nat.le_of_ble_eq_true rfl) (Nat.le_of_ble_eq_true rfl) (fun x hx => absurd hx List.not_mem_nil) (q_nmL0 _) (q_nmS0 _) rfl (pos' := 34) (st' := [.int r38, .ref 490]) (lI' := [(490, r37.2)]) (lE' := []) rfl rfl rfl rfl ?_
      obtain ⟨r39, hr39, hf⟩ := q_bd hf
      refine q_kV (M2 := m_X8_push) (As := [.int r38]) (b := 490) (v2 := none) ok_X8_obey ok_X8_push cv_X8_push (ct_X8_push_490 (d := 1) (Nat.le_refl _) hr39) rfl rfl (Or.inl rfl) rfl rfl rfl rfl (Nat.le_trans (Nat.le_of_ble_eq_true rfl) hd) (Nat.le_of_ble_eq_true rfl) (Nat.le_of_ble_eq_true rfl) (Nat.le_of_ble_eq_true rfl) (fun x hx => absurd hx List.not_mem_nil) (q_nmL0 _) (q_nmS0 _) rfl (pos' := 35) (st' := []) (lI' := [(490, r39.1), (491, r39.2)]) (lE' := []) rfl rfl (q_mgw rfl rfl) rfl ?_
      cases hf
      exact q_krv ok_X8_obey rfl rfl (Nat.le_of_ble_eq_true rfl) (Nat.le_of_ble_eq_true rfl) ⟨rfl, q_hpe (q_pdw [490, 491] rfl rfl) (q_pdw [] rfl rfl)⟩
    | 15, ht9 =>
      have hx9 : (q_sw j1) = 20 := hx9
      cases ht9
      have hf := q_in (fun hz9 => absurd (hx9.symm.trans hz9) (by decide)) hf
      have hf := q_in (fun hz9 => absurd (hx9.symm.trans hz9) (by decide)) hf
      have hf := q_in (fun hz9 => absurd (hx9.symm.trans hz9) (by decide)) hf
      have hf := q_in (fun hz9 => absurd (hx9.symm.trans hz9) (by decide)) hf
      have hf := q_in (fun hz9 => absurd (hx9.symm.trans hz9) (by decide)) hf
      have hf := q_in (fun hz9 => absurd (hx9.symm.trans hz9) (by decide)) hf
      have hf := q_in (fun hz9 => absurd (hx9.symm.trans hz9) (by decide)) hf
      have hf := q_in (fun hz9 => absurd (hx9.symm.trans hz9) (by decide)) hf
      have hf := q_in (fun hz9 => absurd (hx9.symm.trans hz9) (by decide)) hf
      have hf := q_in (fun hz9 => absurd (hx9.symm.trans hz9) (by decide)) hf
      have hf := q_in (fun hz9 => absurd (hx9.symm.trans hz9) (by decide)) hf
      have hf := q_in (fun hz9 => absurd (hx9.symm.trans hz9) (by decide)) hf
      have hf := q_in (fun hz9 => absurd (hx9.symm.trans hz9) (by decide)) hf
      have hf := q_in (fun hz9 => absurd (hx9.symm.trans hz9) (by decide)) hf
      have hf := q_in (fun hz9 => absurd (hx9.symm.trans hz9) (by decide)) hf
      have hf := q_ip hx9 hf
      refine q_blk 1 [] (c' := q_kc (t, r, m, z, N, ext, rx, L) I E 26 [some (.ref 490), some (.ref 457), some (.ref x2), some (.int x3), none] [.ref 490] [] []) ok_X8_obey rfl q_cn ?_
      obtain ⟨r40, hr40, hf⟩ := q_bd hf
      refine q_kV (M2 := m_X8_pop) (As := []) (b := 490) (v2 := some (.int r40.1)) ok_X8_obey ok_X8_pop cv_X8_pop (ct_X8_pop_490 (d := 1) (Nat.le_refl _) hr40) rfl rfl (Or.inl rfl) rfl rfl rfl rfl (Nat.le_trans (Nat.le_of_ble_eq_true rfl) hd) (Nat.le_of_ble_eq_true rfl) (Nat.le_of_ble_eq_true rfl) (Nat.le_of_ble_eq_true rfl) (fun x hx => absurd hx List.not_mem_nil) (q_nmL0 _) (q_nmS0 _) rfl (pos' := 27) (st' := [.int r40.1]) (lI' := [(490, r40.2)]) (lE' := []) rfl rfl (q_mgw rfl rfl) rfl ?_
      refine q_blk 4 [] (c' := q_kc (t, r, m, z, N, ext, rx, L) I E 31 [some (.ref 490), some (.ref 457), some (.ref x2), some (.int x3), some (.int r40.1)] [.ref 490, .ref x2, .ref 490] [(490, r40.2)] []) ok_X8_obey rfl q_cn ?_
      obtain ⟨r41, hr41, hf⟩ := q_bd hf
      refine q_kV (M2 := m_X8_pop) (As := []) (b := 490) (v2 := some (.int r41.1)) ok_X8_obey ok_X8_pop cv_X8_pop (ct_X8_pop_490 (d := 1) (Nat.le_refl _) hr41) rfl rfl (Or.inl rfl) rfl rfl rfl rfl (Nat.le_trans (Nat.le_of_ble_eq_true rfl) hd) (Nat.le_of_ble_eq_true rfl) (Nat.le_of_ble_eq_true rfl) (Nat.le_of_ble_eq_true rfl) (fun x hx => absurd hx List.not_mem_nil) (q_nmL0 _) (q_nmS0 _) rfl (pos' := 32) (st' := [.int r41.1, .ref x2, .ref 490]) (lI' := [(490, r41.2)]) (lE' := []) rfl rfl (q_mgw rfl rfl) rfl ?_
      refine q_blk 1 [] (c' := q_kc (t, r, m, z, N, ext, rx, L) I E 33 [some (.ref 490), some (.ref 457), some (.ref x2), some (.int x3), some (.int r40.1)] [.int r40.1, .int r41.1, .ref x2, .ref 490] [(490, r41.2)] []) ok_X8_obey rfl q_cn ?_
      obtain ⟨r42, hr42, hf⟩ := q_bd hf
      refine q_kS (M2 := m_X8_joined) (As := [.ref x2, .int r41.1, .int r40.1]) (v2 := some (.int r42)) ok_X8_obey ok_X8_joined cs_X8_joined (ct_X8_joined (d := 2) (Nat.le_refl _) hr42) rfl rfl (Or.inl rfl) (Nat.le_trans (Nat.le_of_ble_eq_true rfl) hd) (Nat.le_of_ble_eq_true rfl) (Nat.le_of_ble_eq_true rfl) (Nat.le_of_ble_eq_true rfl) (fun x hx => absurd hx List.not_mem_nil) (q_nmL0 _) (q_nmS0 _) rfl (pos' := 34) (st' := [.int r42, .ref 490]) (lI' := [(490, r41.2)]) (lE' := []) rfl rfl rfl rfl ?_
      obtain ⟨r43, hr43, hf⟩ := q_bd hf
      refine q_kV (M2 := m_X8_push) (As := [.int r42]) (b := 490) (v2 := none) ok_X8_obey ok_X8_push cv_X8_push (ct_X8_push_490 (d := 1) (Nat.le_refl _) hr43) rfl rfl (Or.inl rfl) rfl rfl rfl rfl (Nat.le_trans (Nat.le_of_ble_eq_true rfl) hd) (Nat.le_of_ble_eq_true rfl) (Nat.le_of_ble_eq_true rfl) (Nat.le_of_ble_eq_true rfl) (fun x hx => absurd hx List.not_mem_nil) (q_nmL0 _) (q_nmS0 _) rfl (pos' := 35) (st' := []) (lI' := [(490, r43.1), (491, r43.2)]) (lE' := []) rfl rfl (q_mgw rfl rfl) rfl ?_
      cases hf
      exact q_krv ok_X8_obey rfl rfl (Nat.le_of_ble_eq_true rfl) (Nat.le_of_ble_eq_true rfl) ⟨rfl, q_hpe (q_pdw [490, 491] rfl rfl) (q_pdw [] rfl rfl)⟩
    | 16, ht9 =>
      have hx9 : (q_sw j1) = 21 := hx9
      cases ht9
      have hf := q_in (fun hz9 => absurd (hx9.symm.trans hz9) (by decide)) hf
      have hf := q_in (fun hz9 => absurd (hx9.symm.trans hz9) (by decide)) hf
      have hf := q_in (fun hz9 => absurd (hx9.symm.trans hz9) (by decide)) hf
      have hf := q_in (fun hz9 => absurd (hx9.symm.trans hz9) (by decide)) hf
      have hf := q_in (fun hz9 => absurd (hx9.symm.trans hz9) (by decide)) hf
      have hf := q_in (fun hz9 => absurd (hx9.symm.trans hz9) (by decide)) hf
      have hf := q_in (fun hz9 => absurd (hx9.symm.trans hz9) (by decide)) hf
      have hf := q_in (fun hz9 => absurd (hx9.symm.trans hz9) (by decide)) hf
      have hf := q_in (fun hz9 => absurd (hx9.symm.trans hz9) (by decide)) hf
      have hf := q_in (fun hz9 => absurd (hx9.symm.trans hz9) (by decide)) hf
      have hf := q_in (fun hz9 => absurd (hx9.symm.trans hz9) (by decide)) hf
      have hf := q_in (fun hz9 => absurd (hx9.symm.trans hz9) (by decide)) hf
      have hf := q_in (fun hz9 => absurd (hx9.symm.trans hz9) (by decide)) hf
      have hf := q_in (fun hz9 => absurd (hx9.symm.trans hz9) (by decide)) hf
      have hf := q_in (fun hz9 => absurd (hx9.symm.trans hz9) (by decide)) hf
      have hf := q_in (fun hz9 => absurd (hx9.symm.trans hz9) (by decide)) hf
      have hf := q_ip hx9 hf
      refine q_blk 2 [] (c' := q_kc (t, r, m, z, N, ext, rx, L) I E 7 [some (.ref 490), some (.ref 457), some (.ref x2), some (.int x3), none] [.ref 490, .ref 490] [] []) ok_X8_obey rfl q_cn ?_
      obtain ⟨r44, hr44, hf⟩ := q_bd hf
      refine q_kV (M2 := m_X8_pop) (As := []) (b := 490) (v2 := some (.int r44.1)) ok_X8_obey ok_X8_pop cv_X8_pop (ct_X8_pop_490 (d := 1) (Nat.le_refl _) hr44) rfl rfl (Or.inl rfl) rfl rfl rfl rfl (Nat.le_trans (Nat.le_of_ble_eq_true rfl) hd) (Nat.le_of_ble_eq_true rfl) (Nat.le_of_ble_eq_true rfl) (Nat.le_of_ble_eq_true rfl) (fun x hx => absurd hx List.not_mem_nil) (q_nmL0 _) (q_nmS0 _) rfl (pos' := 8) (st' := [.int r44.1, .ref 490]) (lI' := [(490, r44.2)]) (lE' := []) rfl rfl (q_mgw rfl rfl) rfl ?_
      refine q_blk 1 [] (c' := q_kc (t, r, m, z, N, ext, rx, L) I E 9 [some (.ref 490), some (.ref 457), some (.ref x2), some (.int x3), none] [.int (-r44.1), .ref 490] [(490, r44.2)] []) ok_X8_obey rfl q_cn ?_
      obtain ⟨r45, hr45, hf⟩ := q_bd hf
      refine q_kV (M2 := m_X8_push) (As := [.int (-r44.1)]) (b := 490) (v2 := none) ok_X8_obey ok_X8_push cv_X8_push (ct_X8_push_490 (d := 1) (Nat.le_refl _) hr45) rfl rfl (Or.inl rfl) rfl rfl rfl rfl (Nat.le_trans (Nat.le_of_ble_eq_true rfl) hd) (Nat.le_of_ble_eq_true rfl) (Nat.le_of_ble_eq_true rfl) (Nat.le_of_ble_eq_true rfl) (fun x hx => absurd hx List.not_mem_nil) (q_nmL0 _) (q_nmS0 _) rfl (pos' := 10) (st' := []) (lI' := [(490, r45.1), (491, r45.2)]) (lE' := []) rfl rfl (q_mgw rfl rfl) rfl ?_
      refine q_blk 1 [] (c' := q_kc (t, r, m, z, N, ext, rx, L) I E 35 [some (.ref 490), some (.ref 457), some (.ref x2), some (.int x3), none] [] [(490, r45.1), (491, r45.2)] []) ok_X8_obey rfl q_cn ?_
      cases hf
      exact q_krv ok_X8_obey rfl rfl (Nat.le_of_ble_eq_true rfl) (Nat.le_of_ble_eq_true rfl) ⟨rfl, q_hpe (q_pdw [490, 491] rfl rfl) (q_pdw [] rfl rfl)⟩
    | z9 + 17, ht9 => cases ht9
  · have hf := q_in (hx9 0 (by decide)) hf
    have hf := q_in (hx9 1 (by decide)) hf
    have hf := q_in (hx9 2 (by decide)) hf
    have hf := q_in (hx9 3 (by decide)) hf
    have hf := q_in (hx9 4 (by decide)) hf
    have hf := q_in (hx9 5 (by decide)) hf
    have hf := q_in (hx9 6 (by decide)) hf
    have hf := q_in (hx9 7 (by decide)) hf
    have hf := q_in (hx9 8 (by decide)) hf
    have hf := q_in (hx9 9 (by decide)) hf
    have hf := q_in (hx9 10 (by decide)) hf
    have hf := q_in (hx9 11 (by decide)) hf
    have hf := q_in (hx9 12 (by decide)) hf
    have hf := q_in (hx9 13 (by decide)) hf
    have hf := q_in (hx9 14 (by decide)) hf
    have hf := q_in (hx9 15 (by decide)) hf
    have hf := q_in (hx9 16 (by decide)) hf
    refine q_blk 1 [] (c' := q_kc (t, r, m, z, N, ext, rx, L) I E 26 [some (.ref 490), some (.ref 457), some (.ref x2), some (.int x3), none] [.ref 490] [] []) ok_X8_obey rfl q_cn ?_
    obtain ⟨r46, hr46, hf⟩ := q_bd hf
    refine q_kV (M2 := m_X8_pop) (As := []) (b := 490) (v2 := some (.int r46.1)) ok_X8_obey ok_X8_pop cv_X8_pop (ct_X8_pop_490 (d := 1) (Nat.le_refl _) hr46) rfl rfl (Or.inl rfl) rfl rfl rfl rfl (Nat.le_trans (Nat.le_of_ble_eq_true rfl) hd) (Nat.le_of_ble_eq_true rfl) (Nat.le_of_ble_eq_true rfl) (Nat.le_of_ble_eq_true rfl) (fun x hx => absurd hx List.not_mem_nil) (q_nmL0 _) (q_nmS0 _) rfl (pos' := 27) (st' := [.int r46.1]) (lI' := [(490, r46.2)]) (lE' := []) rfl rfl (q_mgw rfl rfl) rfl ?_
    refine q_blk 4 [] (c' := q_kc (t, r, m, z, N, ext, rx, L) I E 31 [some (.ref 490), some (.ref 457), some (.ref x2), some (.int x3), some (.int r46.1)] [.ref 490, .ref x2, .ref 490] [(490, r46.2)] []) ok_X8_obey rfl q_cn ?_
    obtain ⟨r47, hr47, hf⟩ := q_bd hf
    refine q_kV (M2 := m_X8_pop) (As := []) (b := 490) (v2 := some (.int r47.1)) ok_X8_obey ok_X8_pop cv_X8_pop (ct_X8_pop_490 (d := 1) (Nat.le_refl _) hr47) rfl rfl (Or.inl rfl) rfl rfl rfl rfl (Nat.le_trans (Nat.le_of_ble_eq_true rfl) hd) (Nat.le_of_ble_eq_true rfl) (Nat.le_of_ble_eq_true rfl) (Nat.le_of_ble_eq_true rfl) (fun x hx => absurd hx List.not_mem_nil) (q_nmL0 _) (q_nmS0 _) rfl (pos' := 32) (st' := [.int r47.1, .ref x2, .ref 490]) (lI' := [(490, r47.2)]) (lE' := []) rfl rfl (q_mgw rfl rfl) rfl ?_
    refine q_blk 1 [] (c' := q_kc (t, r, m, z, N, ext, rx, L) I E 33 [some (.ref 490), some (.ref 457), some (.ref x2), some (.int x3), some (.int r46.1)] [.int r46.1, .int r47.1, .ref x2, .ref 490] [(490, r47.2)] []) ok_X8_obey rfl q_cn ?_
    obtain ⟨r48, hr48, hf⟩ := q_bd hf
    refine q_kS (M2 := m_X8_joined) (As := [.ref x2, .int r47.1, .int r46.1]) (v2 := some (.int r48)) ok_X8_obey ok_X8_joined cs_X8_joined (ct_X8_joined (d := 2) (Nat.le_refl _) hr48) rfl rfl (Or.inl rfl) (Nat.le_trans (Nat.le_of_ble_eq_true rfl) hd) (Nat.le_of_ble_eq_true rfl) (Nat.le_of_ble_eq_true rfl) (Nat.le_of_ble_eq_true rfl) (fun x hx => absurd hx List.not_mem_nil) (q_nmL0 _) (q_nmS0 _) rfl (pos' := 34) (st' := [.int r48, .ref 490]) (lI' := [(490, r47.2)]) (lE' := []) rfl rfl rfl rfl ?_
    obtain ⟨r49, hr49, hf⟩ := q_bd hf
    refine q_kV (M2 := m_X8_push) (As := [.int r48]) (b := 490) (v2 := none) ok_X8_obey ok_X8_push cv_X8_push (ct_X8_push_490 (d := 1) (Nat.le_refl _) hr49) rfl rfl (Or.inl rfl) rfl rfl rfl rfl (Nat.le_trans (Nat.le_of_ble_eq_true rfl) hd) (Nat.le_of_ble_eq_true rfl) (Nat.le_of_ble_eq_true rfl) (Nat.le_of_ble_eq_true rfl) (fun x hx => absurd hx List.not_mem_nil) (q_nmL0 _) (q_nmS0 _) rfl (pos' := 35) (st' := []) (lI' := [(490, r49.1), (491, r49.2)]) (lE' := []) rfl rfl (q_mgw rfl rfl) rfl ?_
    cases hf
    exact q_krv ok_X8_obey rfl rfl (Nat.le_of_ble_eq_true rfl) (Nat.le_of_ble_eq_true rfl) ⟨rfl, q_hpe (q_pdw [490, 491] rfl rfl) (q_pdw [] rfl rfl)⟩
