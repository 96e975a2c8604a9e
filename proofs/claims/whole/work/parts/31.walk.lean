set_option maxHeartbeats 4000000 in
theorem ct_X12_sweepLoft_400 {g : q_G} {t : Nat} {r : Nat} {m : Nat} {z : Nat} {N : Nat} {ext : Nat → q_Sh} {rx : Nat → Nat → Option Nat} {L : Nat → Nat → Int64} {d : Nat} (hd : 6 ≤ d)  {I : Nat → Nat → Int32} {E : Nat → Nat → Option Nat} {r0 : Int32 × (Nat → Int32) × (Nat → Int32) × (Nat → Int32) × (Nat → Int32) × (Nat → Int32) × (Nat → Int32) × (Nat → Int32) × (Nat → Int32)} (hf : f_X12_sweepLoft (I 402) (I 457) (I 459) (I 460) (I 461) (I 463) (I 464) (I 465) (I 466) (I 467) (I 468) (I 469) (I 470) = some r0) : q_Ct g m_X12_sweepLoft d 0 0 [] [.ref 400] (q_hp (t, r, m, z, N, ext, rx, L) I E) (fun o h' => o = .inl (some (.int r0.1)) ∧ h' = q_hp (t, r, m, z, N, ext, rx, L) (q_ws I [(457, r0.2.1), (459, r0.2.2.1), (464, r0.2.2.2.1), (465, r0.2.2.2.2.1), (466, r0.2.2.2.2.2.1), (467, r0.2.2.2.2.2.2.1), (468, r0.2.2.2.2.2.2.2.1), (469, r0.2.2.2.2.2.2.2.2)]) (q_ws E [])) := by
  rw [f_X12_sweepLoft] at hf
  refine q_Ct_of ok_X12_sweepLoft (Nat.le_of_ble_eq_true rfl) ?_ _ rfl rfl
  change q_J g m_X12_sweepLoft d 0 0 _ [] _ 0 0 (q_kc (t, r, m, z, N, ext, rx, L) I E 0 [some (.ref 400)] [] [] [])
  refine q_blk 2 [] (c' := q_kc (t, r, m, z, N, ext, rx, L) I E 2 [some (.ref 400)] [.ref 457] [] []) ok_X12_sweepLoft rfl q_cn ?_
  obtain ⟨r1, hr1, hf⟩ := q_bd hf
  refine q_kV (M2 := m_X2_sweep) (As := []) (b := 457) (v2 := some (.int r1.1)) ok_X12_sweepLoft ok_X2_sweep cv_X2_sweep (ct_X2_sweep_457 (d := 5) (Nat.le_refl _) hr1) rfl rfl (Or.inl rfl) rfl rfl rfl rfl (Nat.le_trans (Nat.le_of_ble_eq_true rfl) hd) (Nat.le_of_ble_eq_true rfl) (Nat.le_of_ble_eq_true rfl) (Nat.le_of_ble_eq_true rfl) (fun x hx => absurd hx List.not_mem_nil) (q_nmL0 _) (q_nmS0 _) rfl (pos' := 3) (st' := [.int r1.1]) (lI' := [(457, r1.2.1), (459, r1.2.2.1), (464, r1.2.2.2.1), (465, r1.2.2.2.2.1), (466, r1.2.2.2.2.2.1), (467, r1.2.2.2.2.2.2.1), (468, r1.2.2.2.2.2.2.2.1), (469, r1.2.2.2.2.2.2.2.2)]) (lE' := []) rfl rfl rfl rfl ?_
  cases hf
  exact q_kri ok_X12_sweepLoft rfl rfl rfl (Nat.le_of_ble_eq_true rfl) (Nat.le_of_ble_eq_true rfl) ⟨rfl, q_hpe (q_fin [457, 459, 464, 465, 466, 467, 468, 469] rfl) (q_fin [] rfl)⟩
set_option maxHeartbeats 4000000 in
theorem ct_X12_checkWork_400 {g : q_G} {t : Nat} {r : Nat} {m : Nat} {z : Nat} {N : Nat} {ext : Nat → q_Sh} {rx : Nat → Nat → Option Nat} {L : Nat → Nat → Int64} {d : Nat} (hd : 6 ≤ d)  {I : Nat → Nat → Int32} {E : Nat → Nat → Option Nat} {x1 : Int32} {r0 : (Unit ⊕ String)} (hf : f_X12_checkWork (I 402) x1 = some r0) : q_Ct g m_X12_checkWork d 2 12 [] [.ref 400, .int x1] (q_hp (t, r, m, z, N, ext, rx, L) I E) (fun o h' => o = q_oV r0 ∧ h' = q_hp (t, r, m, z, N, ext, rx, L) (q_ws I []) (q_ws E [])) := by
  rw [f_X12_checkWork] at hf
  refine q_Ct_of ok_X12_checkWork (Nat.le_of_ble_eq_true rfl) ?_ _ rfl rfl
  change q_J g m_X12_checkWork d 2 12 _ [] _ 0 0 (q_kc (t, r, m, z, N, ext, rx, L) I E 0 [some (.ref 400), some (.int x1)] [] [] [])
  refine q_blf 2 [] (a := q_kc (t, r, m, z, N, ext, rx, L) I E 6 [some (.ref 400), some (.int x1)] [] [] []) (b := q_kc (t, r, m, z, N, ext, rx, L) I E 3 [some (.ref 400), some (.int x1)] [] [] []) (P := x1 < (1 : Int32)) ok_X12_checkWork rfl q_cn (fun h1 => ?_) (fun h1 => ?_)
  · have hf := q_ip h1 hf
    cases hf
    exact q_o_throwSW ok_X12_checkWork rfl rfl rfl rfl rfl rfl q_inIAE (by decide +kernel) (by decide +kernel) q_fitIAE q_fits (Nat.le_trans (Nat.le_of_ble_eq_true rfl) hd) (Nat.le_of_ble_eq_true rfl) (Nat.le_of_ble_eq_true rfl) (Nat.le_of_ble_eq_true rfl) ⟨rfl, q_hpe (q_fin [] rfl) (q_fin [] rfl)⟩
  · have hf := q_in h1 hf
    refine q_blf 2 [] (a := q_kc (t, r, m, z, N, ext, rx, L) I E 11 [some (.ref 400), some (.int x1)] [] [] []) (b := q_kc (t, r, m, z, N, ext, rx, L) I E 6 [some (.ref 400), some (.int x1)] [] [] []) (P := x1 ≤ (100 : Int32)) ok_X12_checkWork rfl q_cn (fun h2 => ?_) (fun h2 => ?_)
    · have hf := q_ip h2 hf
      refine q_blf 3 [] (a := q_kc (t, r, m, z, N, ext, rx, L) I E 20 [some (.ref 400), some (.int x1)] [] [] []) (b := q_kc (t, r, m, z, N, ext, rx, L) I E 15 [some (.ref 400), some (.int x1)] [] [] []) (P := ¬ ((I 402) 4) = 0) ok_X12_checkWork rfl q_cn (fun h3 => ?_) (fun h3 => ?_)
      · have hf := q_ip h3 hf
        cases hf
        exact q_krv ok_X12_checkWork rfl rfl (Nat.le_of_ble_eq_true rfl) (Nat.le_of_ble_eq_true rfl) ⟨rfl, q_hpe (q_fin [] rfl) (q_fin [] rfl)⟩
      · have hf := q_in h3 hf
        cases hf
        exact q_o_throwSW ok_X12_checkWork rfl rfl rfl rfl rfl rfl q_inISE (by decide +kernel) (by decide +kernel) q_fitISE q_fits (Nat.le_trans (Nat.le_of_ble_eq_true rfl) hd) (Nat.le_of_ble_eq_true rfl) (Nat.le_of_ble_eq_true rfl) (Nat.le_of_ble_eq_true rfl) ⟨rfl, q_hpe (q_fin [] rfl) (q_fin [] rfl)⟩
    · have hf := q_in h2 hf
      cases hf
      exact q_o_throwSW ok_X12_checkWork rfl rfl rfl rfl rfl rfl q_inIAE (by decide +kernel) (by decide +kernel) q_fitIAE q_fits (Nat.le_trans (Nat.le_of_ble_eq_true rfl) hd) (Nat.le_of_ble_eq_true rfl) (Nat.le_of_ble_eq_true rfl) (Nat.le_of_ble_eq_true rfl) ⟨rfl, q_hpe (q_fin [] rfl) (q_fin [] rfl)⟩
set_option maxHeartbeats 4000000 in
theorem ct_X6_stepWith_402 {g : q_G} {t : Nat} {r : Nat} {m : Nat} {z : Nat} {N : Nat} {ext : Nat → q_Sh} {rx : Nat → Nat → Option Nat} {L : Nat → Nat → Int64} {d : Nat} (hd : 2 ≤ d)  {I : Nat → Nat → Int32} {E : Nat → Nat → Option Nat} {x1 : Int32} {r0 : Nat} (hf : f_X6_stepWith x1 = some r0) : q_Ct g m_X6_stepWith d 0 0 [] [.ref 402, .int x1] (q_hp (t, r, m, z, N, ext, rx, L) I E) (fun o h' => o = .inl (some (.ref (406 + r0))) ∧ h' = q_hp (t, r, m, z, N, ext, rx, L) (q_ws I []) (q_ws E [])) := by
  rw [f_X6_stepWith] at hf
  refine q_Ct_of ok_X6_stepWith (Nat.le_of_ble_eq_true rfl) ?_ _ rfl rfl
  change q_J g m_X6_stepWith d 0 0 _ [] _ 0 0 (q_kc (t, r, m, z, N, ext, rx, L) I E 0 [some (.ref 402), some (.int x1)] [] [] [])
  refine q_blk 4 [] (c' := q_kc (t, r, m, z, N, ext, rx, L) I E 4 [some (.ref 402), some (.int x1)] [.int (0 : Int32), .int x1, .ref 403] [] []) ok_X6_stepWith rfl q_cn ?_
  refine q_kmx (pos' := 5) ok_X6_stepWith rfl rfl (Nat.le_trans (Nat.le_of_ble_eq_true rfl) hd) (Nat.le_of_ble_eq_true rfl) (Nat.le_of_ble_eq_true rfl) (Nat.le_of_ble_eq_true rfl) rfl ?_
  refine q_blk 1 [] (c' := q_kc (t, r, m, z, N, ext, rx, L) I E 6 [some (.ref 402), some (.int x1)] [.int (19 : Int32), .int (q_max x1 (0 : Int32)), .ref 403] [] []) ok_X6_stepWith rfl q_cn ?_
  refine q_kmn (pos' := 7) ok_X6_stepWith rfl rfl (Nat.le_trans (Nat.le_of_ble_eq_true rfl) hd) (Nat.le_of_ble_eq_true rfl) (Nat.le_of_ble_eq_true rfl) (Nat.le_of_ble_eq_true rfl) rfl ?_
  obtain ⟨j1, hj1, hf⟩ := q_bd hf
  refine q_ktold (pos' := 8) ok_X6_stepWith rfl (Or.inl ⟨rfl, rfl⟩) hj1 rfl ?_
  cases hf
  exact q_kra ok_X6_stepWith rfl rfl (Nat.le_of_ble_eq_true rfl) (Nat.le_of_ble_eq_true rfl) ⟨rfl, q_hpe (q_fin [] rfl) (q_fin [] rfl)⟩
set_option maxHeartbeats 4000000 in
theorem ct_X10_hasTest_T406 {g : q_G} {t : Nat} {r : Nat} {m : Nat} {z : Nat} {N : Nat} {ext : Nat → q_Sh} {rx : Nat → Nat → Option Nat} {L : Nat → Nat → Int64} {d : Nat} (hd : 1 ≤ d)  {I : Nat → Nat → Int32} {E : Nat → Nat → Option Nat} {x0 : Nat} {r0 : Bool} (hf : f_X10_hasTest (fun j => I (406 + j)) x0 = some r0) : q_Ct g m_X10_hasTest d 0 0 [] [.ref (406 + x0)] (q_hp (t, r, m, z, N, ext, rx, L) I E) (fun o h' => o = .inl (some (.int (q_bz r0))) ∧ h' = q_hp (t, r, m, z, N, ext, rx, L) (q_ws I []) (q_ws E [])) := by
  rw [f_X10_hasTest] at hf
  refine q_Ct_of ok_X10_hasTest (Nat.le_of_ble_eq_true rfl) ?_ _ rfl rfl
  change q_J g m_X10_hasTest d 0 0 _ [] _ 0 0 (q_kc (t, r, m, z, N, ext, rx, L) I E 0 [some (.ref (406 + x0))] [] [] [])
  obtain ⟨ug0, hg0, hf⟩ := q_bd hf
  refine q_blk 1 [] (c' := q_kc (t, r, m, z, N, ext, rx, L) I E 1 [some (.ref (406 + x0))] [.ref (406 + x0)] [] []) ok_X10_hasTest rfl q_cn ?_
  refine q_kgT (pos' := 2) (x := ((fun j => I (406 + j)) x0 7)) ok_X10_hasTest rfl (Or.inl rfl) (q_t20_lt hg0) rfl rfl (q_wsT0 (q_t20_lt hg0) rfl) rfl ?_
  refine q_blk 1 [] (c' := q_kc (t, r, m, z, N, ext, rx, L) I E 3 [some (.ref (406 + x0))] [.ref (406 + x0), .int ((fun j => I (406 + j)) x0 7)] [] []) ok_X10_hasTest rfl q_cn ?_
  refine q_kgT (pos' := 4) (x := ((fun j => I (406 + j)) x0 6)) ok_X10_hasTest rfl (Or.inl rfl) (q_t20_lt hg0) rfl rfl (q_wsT0 (q_t20_lt hg0) rfl) rfl ?_
  refine q_blf 0 [] (a := q_kc (t, r, m, z, N, ext, rx, L) I E 7 [some (.ref (406 + x0))] [] [] []) (b := q_kc (t, r, m, z, N, ext, rx, L) I E 5 [some (.ref (406 + x0))] [] [] []) (P := ((fun j => I (406 + j)) x0 7) ≤ ((fun j => I (406 + j)) x0 6)) ok_X10_hasTest rfl q_cn (fun h1 => ?_) (fun h1 => ?_)
  · have hf := q_ip h1 hf
    refine q_blk 1 [] (c' := q_kc (t, r, m, z, N, ext, rx, L) I E 8 [some (.ref (406 + x0))] [.int (0 : Int32)] [] []) ok_X10_hasTest rfl q_cn ?_
    cases hf
    exact q_kri ok_X10_hasTest rfl rfl rfl (Nat.le_of_ble_eq_true rfl) (Nat.le_of_ble_eq_true rfl) ⟨rfl, q_hpe (q_fin [] rfl) (q_fin [] rfl)⟩
  · have hf := q_in h1 hf
    refine q_blk 2 [] (c' := q_kc (t, r, m, z, N, ext, rx, L) I E 8 [some (.ref (406 + x0))] [.int (1 : Int32)] [] []) ok_X10_hasTest rfl q_cn ?_
    cases hf
    exact q_kri ok_X10_hasTest rfl rfl rfl (Nat.le_of_ble_eq_true rfl) (Nat.le_of_ble_eq_true rfl) ⟨rfl, q_hpe (q_fin [] rfl) (q_fin [] rfl)⟩
set_option maxHeartbeats 4000000 in
theorem ct_X6_isOrder_402 {g : q_G} {t : Nat} {r : Nat} {m : Nat} {z : Nat} {N : Nat} {ext : Nat → q_Sh} {rx : Nat → Nat → Option Nat} {L : Nat → Nat → Int64} {d : Nat} (hd : 1 ≤ d)  {I : Nat → Nat → Int32} {E : Nat → Nat → Option Nat} {x1 : Int32} {r0 : Bool} (hf : f_X6_isOrder (I 402) x1 = some r0) : q_Ct g m_X6_isOrder d 0 0 [] [.ref 402, .int x1] (q_hp (t, r, m, z, N, ext, rx, L) I E) (fun o h' => o = .inl (some (.int (q_bz r0))) ∧ h' = q_hp (t, r, m, z, N, ext, rx, L) (q_ws I []) (q_ws E [])) := by
  rw [f_X6_isOrder] at hf
  refine q_Ct_of ok_X6_isOrder (Nat.le_of_ble_eq_true rfl) ?_ _ rfl rfl
  change q_J g m_X6_isOrder d 0 0 _ [] _ 0 0 (q_kc (t, r, m, z, N, ext, rx, L) I E 0 [some (.ref 402), some (.int x1)] [] [] [])
  refine q_blf 1 [] (a := q_kc (t, r, m, z, N, ext, rx, L) I E 11 [some (.ref 402), some (.int x1)] [] [] []) (b := q_kc (t, r, m, z, N, ext, rx, L) I E 2 [some (.ref 402), some (.int x1)] [] [] []) (P := x1 < 0) ok_X6_isOrder rfl q_cn (fun h1 => ?_) (fun h1 => ?_)
  · have hf := q_ip h1 hf
    refine q_blk 1 [] (c' := q_kc (t, r, m, z, N, ext, rx, L) I E 12 [some (.ref 402), some (.int x1)] [.int (0 : Int32)] [] []) ok_X6_isOrder rfl q_cn ?_
    cases hf
    exact q_kri ok_X6_isOrder rfl rfl rfl (Nat.le_of_ble_eq_true rfl) (Nat.le_of_ble_eq_true rfl) ⟨rfl, q_hpe (q_fin [] rfl) (q_fin [] rfl)⟩
  · have hf := q_in h1 hf
    refine q_blf 3 [] (a := q_kc (t, r, m, z, N, ext, rx, L) I E 11 [some (.ref 402), some (.int x1)] [] [] []) (b := q_kc (t, r, m, z, N, ext, rx, L) I E 6 [some (.ref 402), some (.int x1)] [] [] []) (P := ((I 402) 5) ≤ x1) ok_X6_isOrder rfl q_cn (fun h2 => ?_) (fun h2 => ?_)
    · have hf := q_ip h2 hf
      refine q_blk 1 [] (c' := q_kc (t, r, m, z, N, ext, rx, L) I E 12 [some (.ref 402), some (.int x1)] [.int (0 : Int32)] [] []) ok_X6_isOrder rfl q_cn ?_
      cases hf
      exact q_kri ok_X6_isOrder rfl rfl rfl (Nat.le_of_ble_eq_true rfl) (Nat.le_of_ble_eq_true rfl) ⟨rfl, q_hpe (q_fin [] rfl) (q_fin [] rfl)⟩
    · have hf := q_in h2 hf
      refine q_blf 2 [] (a := q_kc (t, r, m, z, N, ext, rx, L) I E 11 [some (.ref 402), some (.int x1)] [] [] []) (b := q_kc (t, r, m, z, N, ext, rx, L) I E 9 [some (.ref 402), some (.int x1)] [] [] []) (P := (400 : Int32) ≤ x1) ok_X6_isOrder rfl q_cn (fun h3 => ?_) (fun h3 => ?_)
      · have hf := q_ip h3 hf
        refine q_blk 1 [] (c' := q_kc (t, r, m, z, N, ext, rx, L) I E 12 [some (.ref 402), some (.int x1)] [.int (0 : Int32)] [] []) ok_X6_isOrder rfl q_cn ?_
        cases hf
        exact q_kri ok_X6_isOrder rfl rfl rfl (Nat.le_of_ble_eq_true rfl) (Nat.le_of_ble_eq_true rfl) ⟨rfl, q_hpe (q_fin [] rfl) (q_fin [] rfl)⟩
      · have hf := q_in h3 hf
        refine q_blk 2 [] (c' := q_kc (t, r, m, z, N, ext, rx, L) I E 12 [some (.ref 402), some (.int x1)] [.int (1 : Int32)] [] []) ok_X6_isOrder rfl q_cn ?_
        cases hf
        exact q_kri ok_X6_isOrder rfl rfl rfl (Nat.le_of_ble_eq_true rfl) (Nat.le_of_ble_eq_true rfl) ⟨rfl, q_hpe (q_fin [] rfl) (q_fin [] rfl)⟩
set_option maxHeartbeats 4000000 in
theorem ct_X6_order_402 {g : q_G} {t : Nat} {r : Nat} {m : Nat} {z : Nat} {N : Nat} {ext : Nat → q_Sh} {rx : Nat → Nat → Option Nat} {L : Nat → Nat → Int64} {d : Nat} (hd : 2 ≤ d)  {I : Nat → Nat → Int32} {E : Nat → Nat → Option Nat} {x1 : Int32} {r0 : Nat} (hf : f_X6_order (I 402) (E 404) x1 = some r0) : q_Ct g m_X6_order d 0 0 [] [.ref 402, .int x1] (q_hp (t, r, m, z, N, ext, rx, L) I E) (fun o h' => o = .inl (some (.ref r0)) ∧ h' = q_hp (t, r, m, z, N, ext, rx, L) (q_ws I []) (q_ws E [])) := by
  rw [f_X6_order] at hf
  refine q_Ct_of ok_X6_order (Nat.le_of_ble_eq_true rfl) ?_ _ rfl rfl
  change q_J g m_X6_order d 0 0 _ [] _ 0 0 (q_kc (t, r, m, z, N, ext, rx, L) I E 0 [some (.ref 402), some (.int x1), none] [] [] [])
  refine q_blk 2 [] (c' := q_kc (t, r, m, z, N, ext, rx, L) I E 2 [some (.ref 402), some (.int x1), none] [.int x1, .ref 402] [] []) ok_X6_order rfl q_cn ?_
  obtain ⟨r1, hr1, hf⟩ := q_bd hf
  refine q_kV (M2 := m_X6_isOrder) (As := [.int x1]) (b := 402) (v2 := some (.int (q_bz r1))) ok_X6_order ok_X6_isOrder cv_X6_isOrder (ct_X6_isOrder_402 (d := 1) (Nat.le_refl _) hr1) rfl rfl (Or.inl rfl) rfl rfl rfl rfl (Nat.le_trans (Nat.le_of_ble_eq_true rfl) hd) (Nat.le_of_ble_eq_true rfl) (Nat.le_of_ble_eq_true rfl) (Nat.le_of_ble_eq_true rfl) (fun x hx => absurd hx List.not_mem_nil) (q_nmL0 _) (q_nmS0 _) rfl (pos' := 3) (st' := [.int (q_bz r1)]) (lI' := []) (lE' := []) rfl rfl rfl rfl ?_
  refine q_blf 0 [] (a := q_kc (t, r, m, z, N, ext, rx, L) I E 9 [some (.ref 402), some (.int x1), none] [] [] []) (b := q_kc (t, r, m, z, N, ext, rx, L) I E 4 [some (.ref 402), some (.int x1), none] [] [] []) (P := (q_bz r1) = 0) ok_X6_order rfl q_cn (fun h2 => ?_) (fun h2 => ?_)
  · have hf := q_ip h2 hf
    refine q_blk 5 [] (c' := q_kc (t, r, m, z, N, ext, rx, L) I E 16 [some (.ref 402), some (.int x1), some (.ref 1)] [.ref 1] [] []) ok_X6_order rfl q_cn ?_
    cases hf
    exact q_kra ok_X6_order rfl rfl (Nat.le_of_ble_eq_true rfl) (Nat.le_of_ble_eq_true rfl) ⟨rfl, q_hpe (q_fin [] rfl) (q_fin [] rfl)⟩
  · have hf := q_in h2 hf
    obtain ⟨j3, hj3, hf⟩ := q_bd hf
    refine q_blk 3 [] (c' := q_kc (t, r, m, z, N, ext, rx, L) I E 7 [some (.ref 402), some (.int x1), none] [.int x1, .ref 404] [] []) ok_X6_order rfl q_cn ?_
    refine q_kaE (o := ((E 404) j3)) (pos' := 8) ok_X6_order rfl rfl rfl hj3 rfl rfl rfl (fun hb5 => ?_) (fun b4 hb5 hl6 => ?_)
    · have hf := q_on0 hb5 hf
      refine q_blk 6 [] (c' := q_kc (t, r, m, z, N, ext, rx, L) I E 16 [some (.ref 402), some (.int x1), some (.null)] [.ref 1] [] []) ok_X6_order rfl q_cn ?_
      cases hf
      exact q_kra ok_X6_order rfl rfl (Nat.le_of_ble_eq_true rfl) (Nat.le_of_ble_eq_true rfl) ⟨rfl, q_hpe (q_fin [] rfl) (q_fin [] rfl)⟩
    · have hf := q_on1 hb5 hf
      refine q_blk 5 [] (c' := q_kc (t, r, m, z, N, ext, rx, L) I E 16 [some (.ref 402), some (.int x1), some (.ref b4)] [.ref b4] [] []) ok_X6_order rfl q_cn ?_
      cases hf
      exact q_kra ok_X6_order rfl rfl (Nat.le_of_ble_eq_true rfl) (Nat.le_of_ble_eq_true rfl) ⟨rfl, q_hpe (q_fin [] rfl) (q_fin [] rfl)⟩
set_option maxHeartbeats 4000000 in
theorem ct_X6_orderNumber_402 {g : q_G} {t : Nat} {r : Nat} {m : Nat} {z : Nat} {N : Nat} {ext : Nat → q_Sh} {rx : Nat → Nat → Option Nat} {L : Nat → Nat → Int64} {d : Nat} (hd : 2 ≤ d)  {I : Nat → Nat → Int32} {E : Nat → Nat → Option Nat} {x1 : Int32} {r0 : Int32} (hf : f_X6_orderNumber (I 402) (I 405) x1 = some r0) : q_Ct g m_X6_orderNumber d 0 0 [] [.ref 402, .int x1] (q_hp (t, r, m, z, N, ext, rx, L) I E) (fun o h' => o = .inl (some (.int r0)) ∧ h' = q_hp (t, r, m, z, N, ext, rx, L) (q_ws I []) (q_ws E [])) := by
  rw [f_X6_orderNumber] at hf
  refine q_Ct_of ok_X6_orderNumber (Nat.le_of_ble_eq_true rfl) ?_ _ rfl rfl
  change q_J g m_X6_orderNumber d 0 0 _ [] _ 0 0 (q_kc (t, r, m, z, N, ext, rx, L) I E 0 [some (.ref 402), some (.int x1)] [] [] [])
  refine q_blk 2 [] (c' := q_kc (t, r, m, z, N, ext, rx, L) I E 2 [some (.ref 402), some (.int x1)] [.int x1, .ref 402] [] []) ok_X6_orderNumber rfl q_cn ?_
  obtain ⟨r1, hr1, hf⟩ := q_bd hf
  refine q_kV (M2 := m_X6_isOrder) (As := [.int x1]) (b := 402) (v2 := some (.int (q_bz r1))) ok_X6_orderNumber ok_X6_isOrder cv_X6_isOrder (ct_X6_isOrder_402 (d := 1) (Nat.le_refl _) hr1) rfl rfl (Or.inl rfl) rfl rfl rfl rfl (Nat.le_trans (Nat.le_of_ble_eq_true rfl) hd) (Nat.le_of_ble_eq_true rfl) (Nat.le_of_ble_eq_true rfl) (Nat.le_of_ble_eq_true rfl) (fun x hx => absurd hx List.not_mem_nil) (q_nmL0 _) (q_nmS0 _) rfl (pos' := 3) (st' := [.int (q_bz r1)]) (lI' := []) (lE' := []) rfl rfl rfl rfl ?_
  refine q_blf 0 [] (a := q_kc (t, r, m, z, N, ext, rx, L) I E 9 [some (.ref 402), some (.int x1)] [] [] []) (b := q_kc (t, r, m, z, N, ext, rx, L) I E 4 [some (.ref 402), some (.int x1)] [] [] []) (P := (q_bz r1) = 0) ok_X6_orderNumber rfl q_cn (fun h2 => ?_) (fun h2 => ?_)
  · have hf := q_ip h2 hf
    refine q_blk 1 [] (c' := q_kc (t, r, m, z, N, ext, rx, L) I E 10 [some (.ref 402), some (.int x1)] [.int (0 : Int32)] [] []) ok_X6_orderNumber rfl q_cn ?_
    cases hf
    exact q_kri ok_X6_orderNumber rfl rfl rfl (Nat.le_of_ble_eq_true rfl) (Nat.le_of_ble_eq_true rfl) ⟨rfl, q_hpe (q_fin [] rfl) (q_fin [] rfl)⟩
  · have hf := q_in h2 hf
    obtain ⟨j3, hj3, hf⟩ := q_bd hf
    refine q_blk 5 [j3] (c' := q_kc (t, r, m, z, N, ext, rx, L) I E 10 [some (.ref 402), some (.int x1)] [.int ((I 405) j3)] [] []) ok_X6_orderNumber rfl (q_cc hj3 q_cn) ?_
    cases hf
    exact q_kri ok_X6_orderNumber rfl rfl rfl (Nat.le_of_ble_eq_true rfl) (Nat.le_of_ble_eq_true rfl) ⟨rfl, q_hpe (q_fin [] rfl) (q_fin [] rfl)⟩
set_option maxHeartbeats 4000000 in
theorem ct_X8_pop_490 {g : q_G} {t : Nat} {r : Nat} {m : Nat} {z : Nat} {N : Nat} {ext : Nat → q_Sh} {rx : Nat → Nat → Option Nat} {L : Nat → Nat → Int64} {d : Nat} (hd : 1 ≤ d)  {I : Nat → Nat → Int32} {E : Nat → Nat → Option Nat} {r0 : Int32 × (Nat → Int32)} (hf : f_X8_pop (I 490) (I 491) = some r0) : q_Ct g m_X8_pop d 0 0 [] [.ref 490] (q_hp (t, r, m, z, N, ext, rx, L) I E) (fun o h' => o = .inl (some (.int r0.1)) ∧ h' = q_hp (t, r, m, z, N, ext, rx, L) (q_ws I [(490, r0.2)]) (q_ws E [])) := by
  rw [f_X8_pop] at hf
  refine q_Ct_of ok_X8_pop (Nat.le_of_ble_eq_true rfl) ?_ _ rfl rfl
  change q_J g m_X8_pop d 0 0 _ [] _ 0 0 (q_kc (t, r, m, z, N, ext, rx, L) I E 0 [some (.ref 490)] [] [] [])
  refine q_blf 2 [] (a := q_kc (t, r, m, z, N, ext, rx, L) I E 7 [some (.ref 490)] [] [] []) (b := q_kc (t, r, m, z, N, ext, rx, L) I E 3 [some (.ref 490)] [] [] []) (P := ((I 490) 1) ≤ 0) ok_X8_pop rfl q_cn (fun h1 => ?_) (fun h1 => ?_)
  · have hf := q_ip h1 hf
    refine q_blk 1 [] (c' := q_kc (t, r, m, z, N, ext, rx, L) I E 8 [some (.ref 490)] [.int (0 : Int32)] [] []) ok_X8_pop rfl q_cn ?_
    cases hf
    exact q_kri ok_X8_pop rfl rfl rfl (Nat.le_of_ble_eq_true rfl) (Nat.le_of_ble_eq_true rfl) ⟨rfl, q_hpe (q_fin [490] rfl) (q_fin [] rfl)⟩
  · have hf := q_in h1 hf
    refine q_blf 3 [] (a := q_kc (t, r, m, z, N, ext, rx, L) I E 9 [some (.ref 490)] [] [] []) (b := q_kc (t, r, m, z, N, ext, rx, L) I E 7 [some (.ref 490)] [] [] []) (P := ((I 490) 1) ≤ (400 : Int32)) ok_X8_pop rfl q_cn (fun h2 => ?_) (fun h2 => ?_)
    · have hf := q_ip h2 hf
      obtain ⟨j3, hj3, hf⟩ := q_bd hf
      refine q_blk 11 [j3] (c' := q_kc (t, r, m, z, N, ext, rx, L) I E 20 [some (.ref 490)] [.int ((I 491) j3)] [(490, (q_up (I 490) 1 (((I 490) 1) - (1 : Int32))))] []) ok_X8_pop rfl (q_cc hj3 q_cn) ?_
      cases hf
      exact q_kri ok_X8_pop rfl rfl rfl (Nat.le_of_ble_eq_true rfl) (Nat.le_of_ble_eq_true rfl) ⟨rfl, q_hpe (q_fin [490] rfl) (q_fin [] rfl)⟩
    · have hf := q_in h2 hf
      refine q_blk 1 [] (c' := q_kc (t, r, m, z, N, ext, rx, L) I E 8 [some (.ref 490)] [.int (0 : Int32)] [] []) ok_X8_pop rfl q_cn ?_
      cases hf
      exact q_kri ok_X8_pop rfl rfl rfl (Nat.le_of_ble_eq_true rfl) (Nat.le_of_ble_eq_true rfl) ⟨rfl, q_hpe (q_fin [490] rfl) (q_fin [] rfl)⟩
set_option maxHeartbeats 4000000 in
theorem ct_X8_push_490 {g : q_G} {t : Nat} {r : Nat} {m : Nat} {z : Nat} {N : Nat} {ext : Nat → q_Sh} {rx : Nat → Nat → Option Nat} {L : Nat → Nat → Int64} {d : Nat} (hd : 1 ≤ d)  {I : Nat → Nat → Int32} {E : Nat → Nat → Option Nat} {x1 : Int32} {r0 : (Nat → Int32) × (Nat → Int32)} (hf : f_X8_push (I 490) (I 491) x1 = some r0) : q_Ct g m_X8_push d 0 0 [] [.ref 490, .int x1] (q_hp (t, r, m, z, N, ext, rx, L) I E) (fun o h' => o = .inl none ∧ h' = q_hp (t, r, m, z, N, ext, rx, L) (q_ws I [(490, r0.1), (491, r0.2)]) (q_ws E [])) := by
  rw [f_X8_push] at hf
  refine q_Ct_of ok_X8_push (Nat.le_of_ble_eq_true rfl) ?_ _ rfl rfl
  change q_J g m_X8_push d 0 0 _ [] _ 0 0 (q_kc (t, r, m, z, N, ext, rx, L) I E 0 [some (.ref 490), some (.int x1)] [] [] [])
  refine q_blf 2 [] (a := q_kc (t, r, m, z, N, ext, rx, L) I E 19 [some (.ref 490), some (.int x1)] [] [] []) (b := q_kc (t, r, m, z, N, ext, rx, L) I E 3 [some (.ref 490), some (.int x1)] [] [] []) (P := ((I 490) 1) < 0) ok_X8_push rfl q_cn (fun h1 => ?_) (fun h1 => ?_)
  · have hf := q_ip h1 hf
    cases hf
    exact q_krv ok_X8_push rfl rfl (Nat.le_of_ble_eq_true rfl) (Nat.le_of_ble_eq_true rfl) ⟨rfl, q_hpe (q_fin [490, 491] rfl) (q_fin [] rfl)⟩
  · have hf := q_in h1 hf
    refine q_blf 3 [] (a := q_kc (t, r, m, z, N, ext, rx, L) I E 19 [some (.ref 490), some (.int x1)] [] [] []) (b := q_kc (t, r, m, z, N, ext, rx, L) I E 7 [some (.ref 490), some (.int x1)] [] [] []) (P := (400 : Int32) ≤ ((I 490) 1)) ok_X8_push rfl q_cn (fun h2 => ?_) (fun h2 => ?_)
    · have hf := q_ip h2 hf
      cases hf
      exact q_krv ok_X8_push rfl rfl (Nat.le_of_ble_eq_true rfl) (Nat.le_of_ble_eq_true rfl) ⟨rfl, q_hpe (q_fin [490, 491] rfl) (q_fin [] rfl)⟩
    · have hf := q_in h2 hf
      obtain ⟨j3, hj3, hf⟩ := q_bd hf
      refine q_blk 12 [j3] (c' := q_kc (t, r, m, z, N, ext, rx, L) I E 19 [some (.ref 490), some (.int x1)] [] [(490, (q_up (I 490) 1 (((I 490) 1) + (1 : Int32)))), (491, (q_up (I 491) j3 x1))] []) ok_X8_push rfl (q_cc hj3 q_cn) ?_
      cases hf
      exact q_krv ok_X8_push rfl rfl (Nat.le_of_ble_eq_true rfl) (Nat.le_of_ble_eq_true rfl) ⟨rfl, q_hpe (q_fin [490, 491] rfl) (q_fin [] rfl)⟩
set_option maxHeartbeats 4000000 in
theorem ct_X8_one {g : q_G} {t : Nat} {r : Nat} {m : Nat} {z : Nat} {N : Nat} {ext : Nat → q_Sh} {rx : Nat → Nat → Option Nat} {L : Nat → Nat → Int64} {d : Nat} (hd : 1 ≤ d)  {I : Nat → Nat → Int32} {E : Nat → Nat → Option Nat} {x0 : Bool} {r0 : Int32} (hf : f_X8_one x0 = some r0) : q_Ct g m_X8_one d 0 0 [] [.int (q_bz x0)] (q_hp (t, r, m, z, N, ext, rx, L) I E) (fun o h' => o = .inl (some (.int r0)) ∧ h' = q_hp (t, r, m, z, N, ext, rx, L) (q_ws I []) (q_ws E [])) := by
  rw [f_X8_one] at hf
  refine q_Ct_of ok_X8_one (Nat.le_of_ble_eq_true rfl) ?_ _ rfl rfl
  change q_J g m_X8_one d 0 0 _ [] _ 0 0 (q_kc (t, r, m, z, N, ext, rx, L) I E 0 [some (.int (q_bz x0))] [] [] [])
  refine q_blf 1 [] (a := q_kc (t, r, m, z, N, ext, rx, L) I E 4 [some (.int (q_bz x0))] [] [] []) (b := q_kc (t, r, m, z, N, ext, rx, L) I E 2 [some (.int (q_bz x0))] [] [] []) (P := (q_bz x0) = 0) ok_X8_one rfl q_cn (fun h1 => ?_) (fun h1 => ?_)
  · have hf := q_ip h1 hf
    refine q_blk 1 [] (c' := q_kc (t, r, m, z, N, ext, rx, L) I E 5 [some (.int (q_bz x0))] [.int (0 : Int32)] [] []) ok_X8_one rfl q_cn ?_
    cases hf
    exact q_kri ok_X8_one rfl rfl rfl (Nat.le_of_ble_eq_true rfl) (Nat.le_of_ble_eq_true rfl) ⟨rfl, q_hpe (q_fin [] rfl) (q_fin [] rfl)⟩
  · have hf := q_in h1 hf
    refine q_blk 2 [] (c' := q_kc (t, r, m, z, N, ext, rx, L) I E 5 [some (.int (q_bz x0))] [.int (1 : Int32)] [] []) ok_X8_one rfl q_cn ?_
    cases hf
    exact q_kri ok_X8_one rfl rfl rfl (Nat.le_of_ble_eq_true rfl) (Nat.le_of_ble_eq_true rfl) ⟨rfl, q_hpe (q_fin [] rfl) (q_fin [] rfl)⟩
set_option maxHeartbeats 4000000 in
theorem ct_X8_value_457 {g : q_G} {t : Nat} {r : Nat} {m : Nat} {z : Nat} {N : Nat} {ext : Nat → q_Sh} {rx : Nat → Nat → Option Nat} {L : Nat → Nat → Int64} {d : Nat} (hd : 2 ≤ d)  {I : Nat → Nat → Int32} {E : Nat → Nat → Option Nat} {x1 : Nat} {x2 : Int32} {r0 : Int32} (hf : f_X8_value (I 402) (I 457) (I 461) (I 462) (I 465) (I 470) x1 x2 = some r0) : q_Ct g m_X8_value d 0 0 [] [.ref 457, .ref x1, .int x2] (q_hp (t, r, m, z, N, ext, rx, L) I E) (fun o h' => o = .inl (some (.int r0)) ∧ h' = q_hp (t, r, m, z, N, ext, rx, L) (q_ws I []) (q_ws E [])) := by
  rw [f_X8_value] at hf
  refine q_Ct_of ok_X8_value (Nat.le_of_ble_eq_true rfl) ?_ _ rfl rfl
  change q_J g m_X8_value d 0 0 _ [] _ 0 0 (q_kc (t, r, m, z, N, ext, rx, L) I E 0 [some (.ref 457), some (.ref x1), some (.int x2)] [] [] [])
  obtain ⟨ug1, hg1, hf⟩ := q_bd hf
  refine q_blk 2 [] (c' := q_kc (t, r, m, z, N, ext, rx, L) I E 2 [some (.ref 457), some (.ref x1), some (.int x2)] [.ref x1, .ref 50] [] []) ok_X8_value rfl q_cn ?_
  refine q_kord (pos' := 3) ok_X8_value rfl (Or.inl rfl) (q_e49_lt hg1) (Nat.le_trans (Nat.le_of_ble_eq_true rfl) hd) (Nat.le_of_ble_eq_true rfl) (Nat.le_of_ble_eq_true rfl) rfl ?_
  obtain ⟨j1, hj1, hf⟩ := q_bd hf
  refine q_blk 1 [j1] (c' := q_kc (t, r, m, z, N, ext, rx, L) I E 4 [some (.ref 457), some (.ref x1), some (.int x2)] [.int (q_sw j1)] [] []) ok_X8_value rfl (q_cc hj1 q_cn) ?_
  refine q_ksw [36, 46, 5, 7, 10, 13, 16, 19, 22, 29] ok_X8_value rfl (dp := 46) rfl (fun ix t9 ht9 hx9 => ?_) (fun hx9 => ?_) (by decide) (by decide)
  · match ix, ht9 with
    | 0, ht9 =>
      have hx9 : (q_sw j1) = 7 := hx9
      cases ht9
      have hf := q_ip hx9 hf
      refine q_blk 2 [] (c' := q_kc (t, r, m, z, N, ext, rx, L) I E 38 [some (.ref 457), some (.ref x1), some (.int x2)] [.int x2, .ref 457] [] []) ok_X8_value rfl q_cn ?_
      obtain ⟨r2, hr2, hf⟩ := q_bd hf
      refine q_kV (M2 := m_X2_held) (As := [.int x2]) (b := 457) (v2 := some (.int r2)) ok_X8_value ok_X2_held cv_X2_held (ct_X2_held_457 (d := 1) (Nat.le_refl _) hr2) rfl rfl (Or.inl rfl) rfl rfl rfl rfl (Nat.le_trans (Nat.le_of_ble_eq_true rfl) hd) (Nat.le_of_ble_eq_true rfl) (Nat.le_of_ble_eq_true rfl) (Nat.le_of_ble_eq_true rfl) (fun x hx => absurd hx List.not_mem_nil) (q_nmL0 _) (q_nmS0 _) rfl (pos' := 39) (st' := [.int r2]) (lI' := []) (lE' := []) rfl rfl rfl rfl ?_
      refine q_blf 1 [] (a := q_kc (t, r, m, z, N, ext, rx, L) I E 43 [some (.ref 457), some (.ref x1), some (.int x2)] [] [] []) (b := q_kc (t, r, m, z, N, ext, rx, L) I E 41 [some (.ref 457), some (.ref x1), some (.int x2)] [] [] []) (P := r2 = (-1 : Int32)) ok_X8_value rfl q_cn (fun h3 => ?_) (fun h3 => ?_)
      · have hf := q_ip h3 hf
        refine q_blk 1 [] (c' := q_kc (t, r, m, z, N, ext, rx, L) I E 44 [some (.ref 457), some (.ref x1), some (.int x2)] [.int (0 : Int32)] [] []) ok_X8_value rfl q_cn ?_
        obtain ⟨r4, hr4, hf⟩ := q_bd hf
        refine q_kS (M2 := m_X8_one) (As := [.int (0 : Int32)]) (v2 := some (.int r4)) ok_X8_value ok_X8_one cs_X8_one (ct_X8_one (d := 1) (Nat.le_refl _) hr4) rfl rfl (Or.inl rfl) (Nat.le_trans (Nat.le_of_ble_eq_true rfl) hd) (Nat.le_of_ble_eq_true rfl) (Nat.le_of_ble_eq_true rfl) (Nat.le_of_ble_eq_true rfl) (fun x hx => absurd hx List.not_mem_nil) (q_nmL0 _) (q_nmS0 _) rfl (pos' := 45) (st' := [.int r4]) (lI' := []) (lE' := []) rfl rfl rfl rfl ?_
        cases hf
        exact q_kri ok_X8_value rfl rfl rfl (Nat.le_of_ble_eq_true rfl) (Nat.le_of_ble_eq_true rfl) ⟨rfl, q_hpe (q_fin [] rfl) (q_fin [] rfl)⟩
      · have hf := q_in h3 hf
        refine q_blk 2 [] (c' := q_kc (t, r, m, z, N, ext, rx, L) I E 44 [some (.ref 457), some (.ref x1), some (.int x2)] [.int (1 : Int32)] [] []) ok_X8_value rfl q_cn ?_
        obtain ⟨r5, hr5, hf⟩ := q_bd hf
        refine q_kS (M2 := m_X8_one) (As := [.int (1 : Int32)]) (v2 := some (.int r5)) ok_X8_value ok_X8_one cs_X8_one (ct_X8_one (d := 1) (Nat.le_refl _) hr5) rfl rfl (Or.inl rfl) (Nat.le_trans (Nat.le_of_ble_eq_true rfl) hd) (Nat.le_of_ble_eq_true rfl) (Nat.le_of_ble_eq_true rfl) (Nat.le_of_ble_eq_true rfl) (fun x hx => absurd hx List.not_mem_nil) (q_nmL0 _) (q_nmS0 _) rfl (pos' := 45) (st' := [.int r5]) (lI' := []) (lE' := []) rfl rfl rfl rfl ?_
        cases hf
        exact q_kri ok_X8_value rfl rfl rfl (Nat.le_of_ble_eq_true rfl) (Nat.le_of_ble_eq_true rfl) ⟨rfl, q_hpe (q_fin [] rfl) (q_fin [] rfl)⟩
    | 1, ht9 =>
      have hx9 : (q_sw j1) = 8 := hx9
      cases ht9
      have hf := q_in (fun hz9 => absurd (hx9.symm.trans hz9) (by decide)) hf
      have hf := q_ip hx9 hf
      refine q_blk 3 [] (c' := q_kc (t, r, m, z, N, ext, rx, L) I E 49 [some (.ref 457), some (.ref x1), some (.int x2)] [.int (6 : Int32), .int x2, .ref 457] [] []) ok_X8_value rfl q_cn ?_
      refine q_kdv (pos' := 50) ok_X8_value rfl (by decide) rfl ?_
      refine q_blk 2 [] (c' := q_kc (t, r, m, z, N, ext, rx, L) I E 52 [some (.ref 457), some (.ref x1), some (.int x2)] [.int (6 : Int32), .int x2, .int (x2 / (6 : Int32)), .ref 457] [] []) ok_X8_value rfl q_cn ?_
      refine q_krm (pos' := 53) ok_X8_value rfl (by decide) rfl ?_
      obtain ⟨r6, hr6, hf⟩ := q_bd hf
      refine q_kV (M2 := m_X2_sameHeld) (As := [.int (x2 / (6 : Int32)), .int (x2 - x2 / (6 : Int32) * (6 : Int32))]) (b := 457) (v2 := some (.int (q_bz r6))) ok_X8_value ok_X2_sameHeld cv_X2_sameHeld (ct_X2_sameHeld_457 (d := 1) (Nat.le_refl _) hr6) rfl rfl (Or.inl rfl) rfl rfl rfl rfl (Nat.le_trans (Nat.le_of_ble_eq_true rfl) hd) (Nat.le_of_ble_eq_true rfl) (Nat.le_of_ble_eq_true rfl) (Nat.le_of_ble_eq_true rfl) (fun x hx => absurd hx List.not_mem_nil) (q_nmL0 _) (q_nmS0 _) rfl (pos' := 54) (st' := [.int (q_bz r6)]) (lI' := []) (lE' := []) rfl rfl rfl rfl ?_
      obtain ⟨r7, hr7, hf⟩ := q_bd hf
      refine q_kS (M2 := m_X8_one) (As := [.int (q_bz r6)]) (v2 := some (.int r7)) ok_X8_value ok_X8_one cs_X8_one (ct_X8_one (d := 1) (Nat.le_refl _) hr7) rfl rfl (Or.inl rfl) (Nat.le_trans (Nat.le_of_ble_eq_true rfl) hd) (Nat.le_of_ble_eq_true rfl) (Nat.le_of_ble_eq_true rfl) (Nat.le_of_ble_eq_true rfl) (fun x hx => absurd hx List.not_mem_nil) (q_nmL0 _) (q_nmS0 _) rfl (pos' := 55) (st' := [.int r7]) (lI' := []) (lE' := []) rfl rfl rfl rfl ?_
      cases hf
      exact q_kri ok_X8_value rfl rfl rfl (Nat.le_of_ble_eq_true rfl) (Nat.le_of_ble_eq_true rfl) ⟨rfl, q_hpe (q_fin [] rfl) (q_fin [] rfl)⟩
    | 2, ht9 =>
      have hx9 : (q_sw j1) = 9 := hx9
      cases ht9
      have hf := q_in (fun hz9 => absurd (hx9.symm.trans hz9) (by decide)) hf
      have hf := q_in (fun hz9 => absurd (hx9.symm.trans hz9) (by decide)) hf
      have hf := q_ip hx9 hf
      refine q_blk 1 [] (c' := q_kc (t, r, m, z, N, ext, rx, L) I E 6 [some (.ref 457), some (.ref x1), some (.int x2)] [.int x2] [] []) ok_X8_value rfl q_cn ?_
      cases hf
      exact q_kri ok_X8_value rfl rfl rfl (Nat.le_of_ble_eq_true rfl) (Nat.le_of_ble_eq_true rfl) ⟨rfl, q_hpe (q_fin [] rfl) (q_fin [] rfl)⟩
    | 3, ht9 =>
      have hx9 : (q_sw j1) = 10 := hx9
      cases ht9
      have hf := q_in (fun hz9 => absurd (hx9.symm.trans hz9) (by decide)) hf
      have hf := q_in (fun hz9 => absurd (hx9.symm.trans hz9) (by decide)) hf
      have hf := q_in (fun hz9 => absurd (hx9.symm.trans hz9) (by decide)) hf
      have hf := q_ip hx9 hf
      refine q_blk 2 [] (c' := q_kc (t, r, m, z, N, ext, rx, L) I E 9 [some (.ref 457), some (.ref x1), some (.int x2)] [.int ((I 457) 10)] [] []) ok_X8_value rfl q_cn ?_
      cases hf
      exact q_kri ok_X8_value rfl rfl rfl (Nat.le_of_ble_eq_true rfl) (Nat.le_of_ble_eq_true rfl) ⟨rfl, q_hpe (q_fin [] rfl) (q_fin [] rfl)⟩
    | 4, ht9 =>
      have hx9 : (q_sw j1) = 11 := hx9
      cases ht9
      have hf := q_in (fun hz9 => absurd (hx9.symm.trans hz9) (by decide)) hf
      have hf := q_in (fun hz9 => absurd (hx9.symm.trans hz9) (by decide)) hf
      have hf := q_in (fun hz9 => absurd (hx9.symm.trans hz9) (by decide)) hf
      have hf := q_in (fun hz9 => absurd (hx9.symm.trans hz9) (by decide)) hf
      have hf := q_ip hx9 hf
      refine q_blk 2 [] (c' := q_kc (t, r, m, z, N, ext, rx, L) I E 12 [some (.ref 457), some (.ref x1), some (.int x2)] [.int ((I 457) 8)] [] []) ok_X8_value rfl q_cn ?_
      cases hf
      exact q_kri ok_X8_value rfl rfl rfl (Nat.le_of_ble_eq_true rfl) (Nat.le_of_ble_eq_true rfl) ⟨rfl, q_hpe (q_fin [] rfl) (q_fin [] rfl)⟩
    | 5, ht9 =>
      have hx9 : (q_sw j1) = 12 := hx9
      cases ht9
      have hf := q_in (fun hz9 => absurd (hx9.symm.trans hz9) (by decide)) hf
      have hf := q_in (fun hz9 => absurd (hx9.symm.trans hz9) (by decide)) hf
      have hf := q_in (fun hz9 => absurd (hx9.symm.trans hz9) (by decide)) hf
      have hf := q_in (fun hz9 => absurd (hx9.symm.trans hz9) (by decide)) hf
      have hf := q_in (fun hz9 => absurd (hx9.symm.trans hz9) (by decide)) hf
      have hf := q_ip hx9 hf
      refine q_blk 1 [] (c' := q_kc (t, r, m, z, N, ext, rx, L) I E 14 [some (.ref 457), some (.ref x1), some (.int x2)] [.ref 457] [] []) ok_X8_value rfl q_cn ?_
      obtain ⟨r8, hr8, hf⟩ := q_bd hf
      refine q_kV (M2 := m_X2_freePlaces) (As := []) (b := 457) (v2 := some (.int r8)) ok_X8_value ok_X2_freePlaces cv_X2_freePlaces (ct_X2_freePlaces_457 (d := 1) (Nat.le_refl _) hr8) rfl rfl (Or.inl rfl) rfl rfl rfl rfl (Nat.le_trans (Nat.le_of_ble_eq_true rfl) hd) (Nat.le_of_ble_eq_true rfl) (Nat.le_of_ble_eq_true rfl) (Nat.le_of_ble_eq_true rfl) (fun x hx => absurd hx List.not_mem_nil) (q_nmL0 _) (q_nmS0 _) rfl (pos' := 15) (st' := [.int r8]) (lI' := []) (lE' := []) rfl rfl rfl rfl ?_
      cases hf
      exact q_kri ok_X8_value rfl rfl rfl (Nat.le_of_ble_eq_true rfl) (Nat.le_of_ble_eq_true rfl) ⟨rfl, q_hpe (q_fin [] rfl) (q_fin [] rfl)⟩
    | 6, ht9 =>
      have hx9 : (q_sw j1) = 13 := hx9
      cases ht9
      have hf := q_in (fun hz9 => absurd (hx9.symm.trans hz9) (by decide)) hf
      have hf := q_in (fun hz9 => absurd (hx9.symm.trans hz9) (by decide)) hf
      have hf := q_in (fun hz9 => absurd (hx9.symm.trans hz9) (by decide)) hf
      have hf := q_in (fun hz9 => absurd (hx9.symm.trans hz9) (by decide)) hf
      have hf := q_in (fun hz9 => absurd (hx9.symm.trans hz9) (by decide)) hf
      have hf := q_in (fun hz9 => absurd (hx9.symm.trans hz9) (by decide)) hf
      have hf := q_ip hx9 hf
      refine q_blk 2 [] (c' := q_kc (t, r, m, z, N, ext, rx, L) I E 18 [some (.ref 457), some (.ref x1), some (.int x2)] [.int ((I 457) 12)] [] []) ok_X8_value rfl q_cn ?_
      cases hf
      exact q_kri ok_X8_value rfl rfl rfl (Nat.le_of_ble_eq_true rfl) (Nat.le_of_ble_eq_true rfl) ⟨rfl, q_hpe (q_fin [] rfl) (q_fin [] rfl)⟩
    | 7, ht9 =>
      have hx9 : (q_sw j1) = 14 := hx9
      cases ht9
      have hf := q_in (fun hz9 => absurd (hx9.symm.trans hz9) (by decide)) hf
      have hf := q_in (fun hz9 => absurd (hx9.symm.trans hz9) (by decide)) hf
      have hf := q_in (fun hz9 => absurd (hx9.symm.trans hz9) (by decide)) hf
      have hf := q_in (fun hz9 => absurd (hx9.symm.trans hz9) (by decide)) hf
      have hf := q_in (fun hz9 => absurd (hx9.symm.trans hz9) (by decide)) hf
      have hf := q_in (fun hz9 => absurd (hx9.symm.trans hz9) (by decide)) hf
      have hf := q_in (fun hz9 => absurd (hx9.symm.trans hz9) (by decide)) hf
      have hf := q_ip hx9 hf
      refine q_blk 1 [] (c' := q_kc (t, r, m, z, N, ext, rx, L) I E 20 [some (.ref 457), some (.ref x1), some (.int x2)] [.ref 457] [] []) ok_X8_value rfl q_cn ?_
      obtain ⟨r9, hr9, hf⟩ := q_bd hf
      refine q_kV (M2 := m_X2_baleCount) (As := []) (b := 457) (v2 := some (.int r9)) ok_X8_value ok_X2_baleCount cv_X2_baleCount (ct_X2_baleCount_457 (d := 1) (Nat.le_refl _) hr9) rfl rfl (Or.inl rfl) rfl rfl rfl rfl (Nat.le_trans (Nat.le_of_ble_eq_true rfl) hd) (Nat.le_of_ble_eq_true rfl) (Nat.le_of_ble_eq_true rfl) (Nat.le_of_ble_eq_true rfl) (fun x hx => absurd hx List.not_mem_nil) (q_nmL0 _) (q_nmS0 _) rfl (pos' := 21) (st' := [.int r9]) (lI' := []) (lE' := []) rfl rfl rfl rfl ?_
      cases hf
      exact q_kri ok_X8_value rfl rfl rfl (Nat.le_of_ble_eq_true rfl) (Nat.le_of_ble_eq_true rfl) ⟨rfl, q_hpe (q_fin [] rfl) (q_fin [] rfl)⟩
    | 8, ht9 =>
      have hx9 : (q_sw j1) = 15 := hx9
      cases ht9
      have hf := q_in (fun hz9 => absurd (hx9.symm.trans hz9) (by decide)) hf
      have hf := q_in (fun hz9 => absurd (hx9.symm.trans hz9) (by decide)) hf
      have hf := q_in (fun hz9 => absurd (hx9.symm.trans hz9) (by decide)) hf
      have hf := q_in (fun hz9 => absurd (hx9.symm.trans hz9) (by decide)) hf
      have hf := q_in (fun hz9 => absurd (hx9.symm.trans hz9) (by decide)) hf
      have hf := q_in (fun hz9 => absurd (hx9.symm.trans hz9) (by decide)) hf
      have hf := q_in (fun hz9 => absurd (hx9.symm.trans hz9) (by decide)) hf
      have hf := q_in (fun hz9 => absurd (hx9.symm.trans hz9) (by decide)) hf
      have hf := q_ip hx9 hf
      refine q_blk 4 [] (c' := q_kc (t, r, m, z, N, ext, rx, L) I E 26 [some (.ref 457), some (.ref x1), some (.int x2)] [.int x2, .ref 457, .ref 458] [] []) ok_X8_value rfl q_cn ?_
      obtain ⟨r10, hr10, hf⟩ := q_bd hf
      refine q_kV (M2 := m_X2_held) (As := [.int x2]) (b := 457) (v2 := some (.int r10)) ok_X8_value ok_X2_held cv_X2_held (ct_X2_held_457 (d := 1) (Nat.le_refl _) hr10) rfl rfl (Or.inl rfl) rfl rfl rfl rfl (Nat.le_trans (Nat.le_of_ble_eq_true rfl) hd) (Nat.le_of_ble_eq_true rfl) (Nat.le_of_ble_eq_true rfl) (Nat.le_of_ble_eq_true rfl) (fun x hx => absurd hx List.not_mem_nil) (q_nmL0 _) (q_nmS0 _) rfl (pos' := 27) (st' := [.int r10, .ref 458]) (lI' := []) (lE' := []) rfl rfl rfl rfl ?_
      obtain ⟨r11, hr11, hf⟩ := q_bd hf
      refine q_kV (M2 := m_X1_size) (As := [.int r10]) (b := 458) (v2 := some (.int r11)) ok_X8_value ok_X1_size cv_X1_size (ct_X1_size_458 (d := 1) (Nat.le_refl _) hr11) rfl rfl (Or.inl rfl) rfl rfl rfl rfl (Nat.le_trans (Nat.le_of_ble_eq_true rfl) hd) (Nat.le_of_ble_eq_true rfl) (Nat.le_of_ble_eq_true rfl) (Nat.le_of_ble_eq_true rfl) (fun x hx => absurd hx List.not_mem_nil) (q_nmL0 _) (q_nmS0 _) rfl (pos' := 28) (st' := [.int r11]) (lI' := []) (lE' := []) rfl rfl rfl rfl ?_
      cases hf
      exact q_kri ok_X8_value rfl rfl rfl (Nat.le_of_ble_eq_true rfl) (Nat.le_of_ble_eq_true rfl) ⟨rfl, q_hpe (q_fin [] rfl) (q_fin [] rfl)⟩
    | 9, ht9 =>
      have hx9 : (q_sw j1) = 16 := hx9
      cases ht9
      have hf := q_in (fun hz9 => absurd (hx9.symm.trans hz9) (by decide)) hf
      have hf := q_in (fun hz9 => absurd (hx9.symm.trans hz9) (by decide)) hf
      have hf := q_in (fun hz9 => absurd (hx9.symm.trans hz9) (by decide)) hf
      have hf := q_in (fun hz9 => absurd (hx9.symm.trans hz9) (by decide)) hf
      have hf := q_in (fun hz9 => absurd (hx9.symm.trans hz9) (by decide)) hf
      have hf := q_in (fun hz9 => absurd (hx9.symm.trans hz9) (by decide)) hf
      have hf := q_in (fun hz9 => absurd (hx9.symm.trans hz9) (by decide)) hf
      have hf := q_in (fun hz9 => absurd (hx9.symm.trans hz9) (by decide)) hf
      have hf := q_in (fun hz9 => absurd (hx9.symm.trans hz9) (by decide)) hf
      have hf := q_ip hx9 hf
      refine q_blk 4 [] (c' := q_kc (t, r, m, z, N, ext, rx, L) I E 33 [some (.ref 457), some (.ref x1), some (.int x2)] [.int x2, .ref 457, .ref 458] [] []) ok_X8_value rfl q_cn ?_
      obtain ⟨r12, hr12, hf⟩ := q_bd hf
      refine q_kV (M2 := m_X2_held) (As := [.int x2]) (b := 457) (v2 := some (.int r12)) ok_X8_value ok_X2_held cv_X2_held (ct_X2_held_457 (d := 1) (Nat.le_refl _) hr12) rfl rfl (Or.inl rfl) rfl rfl rfl rfl (Nat.le_trans (Nat.le_of_ble_eq_true rfl) hd) (Nat.le_of_ble_eq_true rfl) (Nat.le_of_ble_eq_true rfl) (Nat.le_of_ble_eq_true rfl) (fun x hx => absurd hx List.not_mem_nil) (q_nmL0 _) (q_nmS0 _) rfl (pos' := 34) (st' := [.int r12, .ref 458]) (lI' := []) (lE' := []) rfl rfl rfl rfl ?_
      obtain ⟨r13, hr13, hf⟩ := q_bd hf
      refine q_kV (M2 := m_X1_age) (As := [.int r12]) (b := 458) (v2 := some (.int r13)) ok_X8_value ok_X1_age cv_X1_age (ct_X1_age_458 (d := 1) (Nat.le_refl _) hr13) rfl rfl (Or.inl rfl) rfl rfl rfl rfl (Nat.le_trans (Nat.le_of_ble_eq_true rfl) hd) (Nat.le_of_ble_eq_true rfl) (Nat.le_of_ble_eq_true rfl) (Nat.le_of_ble_eq_true rfl) (fun x hx => absurd hx List.not_mem_nil) (q_nmL0 _) (q_nmS0 _) rfl (pos' := 35) (st' := [.int r13]) (lI' := []) (lE' := []) rfl rfl rfl rfl ?_
      cases hf
      exact q_kri ok_X8_value rfl rfl rfl (Nat.le_of_ble_eq_true rfl) (Nat.le_of_ble_eq_true rfl) ⟨rfl, q_hpe (q_fin [] rfl) (q_fin [] rfl)⟩
    | z9 + 10, ht9 => cases ht9
  · have hf := q_in (hx9 0 (by decide)) hf
    have hf := q_in (hx9 1 (by decide)) hf
    have hf := q_in (hx9 2 (by decide)) hf
    have hf := q_in (hx9 3 (by decide)) hf
    have hf := q_in (hx9 4 (by decide)) hf
    have hf := q_in (hx9 5 (by decide)) hf
    have hf := q_in (hx9 6 (by decide)) hf
    have hf := q_in (hx9 7 (by decide)) hf
    have hf := q_in (hx9 8 (by decide)) hf
    have hf := q_in (hx9 9 (by decide)) hf
    refine q_blk 3 [] (c' := q_kc (t, r, m, z, N, ext, rx, L) I E 49 [some (.ref 457), some (.ref x1), some (.int x2)] [.int (6 : Int32), .int x2, .ref 457] [] []) ok_X8_value rfl q_cn ?_
    refine q_kdv (pos' := 50) ok_X8_value rfl (by decide) rfl ?_
    refine q_blk 2 [] (c' := q_kc (t, r, m, z, N, ext, rx, L) I E 52 [some (.ref 457), some (.ref x1), some (.int x2)] [.int (6 : Int32), .int x2, .int (x2 / (6 : Int32)), .ref 457] [] []) ok_X8_value rfl q_cn ?_
    refine q_krm (pos' := 53) ok_X8_value rfl (by decide) rfl ?_
    obtain ⟨r14, hr14, hf⟩ := q_bd hf
    refine q_kV (M2 := m_X2_sameHeld) (As := [.int (x2 / (6 : Int32)), .int (x2 - x2 / (6 : Int32) * (6 : Int32))]) (b := 457) (v2 := some (.int (q_bz r14))) ok_X8_value ok_X2_sameHeld cv_X2_sameHeld (ct_X2_sameHeld_457 (d := 1) (Nat.le_refl _) hr14) rfl rfl (Or.inl rfl) rfl rfl rfl rfl (Nat.le_trans (Nat.le_of_ble_eq_true rfl) hd) (Nat.le_of_ble_eq_true rfl) (Nat.le_of_ble_eq_true rfl) (Nat.le_of_ble_eq_true rfl) (fun x hx => absurd hx List.not_mem_nil) (q_nmL0 _) (q_nmS0 _) rfl (pos' := 54) (st' := [.int (q_bz r14)]) (lI' := []) (lE' := []) rfl rfl rfl rfl ?_
    obtain ⟨r15, hr15, hf⟩ := q_bd hf
    refine q_kS (M2 := m_X8_one) (As := [.int (q_bz r14)]) (v2 := some (.int r15)) ok_X8_value ok_X8_one cs_X8_one (ct_X8_one (d := 1) (Nat.le_refl _) hr15) rfl rfl (Or.inl rfl) (Nat.le_trans (Nat.le_of_ble_eq_true rfl) hd) (Nat.le_of_ble_eq_true rfl) (Nat.le_of_ble_eq_true rfl) (Nat.le_of_ble_eq_true rfl) (fun x hx => absurd hx List.not_mem_nil) (q_nmL0 _) (q_nmS0 _) rfl (pos' := 55) (st' := [.int r15]) (lI' := []) (lE' := []) rfl rfl rfl rfl ?_
    cases hf
    exact q_kri ok_X8_value rfl rfl rfl (Nat.le_of_ble_eq_true rfl) (Nat.le_of_ble_eq_true rfl) ⟨rfl, q_hpe (q_fin [] rfl) (q_fin [] rfl)⟩
set_option maxHeartbeats 4000000 in
theorem ct_X8_joined {g : q_G} {t : Nat} {r : Nat} {m : Nat} {z : Nat} {N : Nat} {ext : Nat → q_Sh} {rx : Nat → Nat → Option Nat} {L : Nat → Nat → Int64} {d : Nat} (hd : 2 ≤ d)  {I : Nat → Nat → Int32} {E : Nat → Nat → Option Nat} {x0 : Nat} {x1 : Int32} {x2 : Int32} {r0 : Int32} (hf : f_X8_joined x0 x1 x2 = some r0) : q_Ct g m_X8_joined d 0 0 [] [.ref x0, .int x1, .int x2] (q_hp (t, r, m, z, N, ext, rx, L) I E) (fun o h' => o = .inl (some (.int r0)) ∧ h' = q_hp (t, r, m, z, N, ext, rx, L) (q_ws I []) (q_ws E [])) := by
  rw [f_X8_joined] at hf
  refine q_Ct_of ok_X8_joined (Nat.le_of_ble_eq_true rfl) ?_ _ rfl rfl
  change q_J g m_X8_joined d 0 0 _ [] _ 0 0 (q_kc (t, r, m, z, N, ext, rx, L) I E 0 [some (.ref x0), some (.int x1), some (.int x2)] [] [] [])
  obtain ⟨ug0, hg0, hf⟩ := q_bd hf
  refine q_blk 2 [] (c' := q_kc (t, r, m, z, N, ext, rx, L) I E 2 [some (.ref x0), some (.int x1), some (.int x2)] [.ref x0, .ref 50] [] []) ok_X8_joined rfl q_cn ?_
  refine q_kord (pos' := 3) ok_X8_joined rfl (Or.inl rfl) (q_e49_lt hg0) (Nat.le_trans (Nat.le_of_ble_eq_true rfl) hd) (Nat.le_of_ble_eq_true rfl) (Nat.le_of_ble_eq_true rfl) rfl ?_
  obtain ⟨j1, hj1, hf⟩ := q_bd hf
  refine q_blk 1 [j1] (c' := q_kc (t, r, m, z, N, ext, rx, L) I E 4 [some (.ref x0), some (.int x1), some (.int x2)] [.int (q_sw j1)] [] []) ok_X8_joined rfl (q_cc hj1 q_cn) ?_
  refine q_ksw [9, 81, 25, 29, 81, 5, 13, 17, 33, 41, 49, 57, 65, 73, 77] ok_X8_joined rfl (dp := 81) rfl (fun ix t9 ht9 hx9 => ?_) (fun hx9 => ?_) (by decide) (by decide)
  · match ix, ht9 with
    | 0, ht9 =>
      have hx9 : (q_sw j1) = 17 := hx9
      cases ht9
      have hf := q_ip hx9 hf
      refine q_blk 3 [] (c' := q_kc (t, r, m, z, N, ext, rx, L) I E 12 [some (.ref x0), some (.int x1), some (.int x2)] [.int (x1 - x2)] [] []) ok_X8_joined rfl q_cn ?_
      cases hf
      exact q_kri ok_X8_joined rfl rfl rfl (Nat.le_of_ble_eq_true rfl) (Nat.le_of_ble_eq_true rfl) ⟨rfl, q_hpe (q_fin [] rfl) (q_fin [] rfl)⟩
    | 1, ht9 =>
      have hx9 : (q_sw j1) = 18 := hx9
      cases ht9
      have hf := q_in (fun hz9 => absurd (hx9.symm.trans hz9) (by decide)) hf
      have hf := q_ip hx9 hf
      refine q_blk 1 [] (c' := q_kc (t, r, m, z, N, ext, rx, L) I E 82 [some (.ref x0), some (.int x1), some (.int x2)] [.int (0 : Int32)] [] []) ok_X8_joined rfl q_cn ?_
      cases hf
      exact q_kri ok_X8_joined rfl rfl rfl (Nat.le_of_ble_eq_true rfl) (Nat.le_of_ble_eq_true rfl) ⟨rfl, q_hpe (q_fin [] rfl) (q_fin [] rfl)⟩
    | 2, ht9 =>
      have hx9 : (q_sw j1) = 19 := hx9
      cases ht9
      have hf := q_in (fun hz9 => absurd (hx9.symm.trans hz9) (by decide)) hf
      have hf := q_in (fun hz9 => absurd (hx9.symm.trans hz9) (by decide)) hf
      have hf := q_ip hx9 hf
      refine q_blk 2 [] (c' := q_kc (t, r, m, z, N, ext, rx, L) I E 27 [some (.ref x0), some (.int x1), some (.int x2)] [.int x2, .int x1] [] []) ok_X8_joined rfl q_cn ?_
      refine q_kmn (pos' := 28) ok_X8_joined rfl rfl (Nat.le_trans (Nat.le_of_ble_eq_true rfl) hd) (Nat.le_of_ble_eq_true rfl) (Nat.le_of_ble_eq_true rfl) (Nat.le_of_ble_eq_true rfl) rfl ?_
      cases hf
      exact q_kri ok_X8_joined rfl rfl rfl (Nat.le_of_ble_eq_true rfl) (Nat.le_of_ble_eq_true rfl) ⟨rfl, q_hpe (q_fin [] rfl) (q_fin [] rfl)⟩
    | 3, ht9 =>
      have hx9 : (q_sw j1) = 20 := hx9
      cases ht9
      have hf := q_in (fun hz9 => absurd (hx9.symm.trans hz9) (by decide)) hf
      have hf := q_in (fun hz9 => absurd (hx9.symm.trans hz9) (by decide)) hf
      have hf := q_in (fun hz9 => absurd (hx9.symm.trans hz9) (by decide)) hf
      have hf := q_ip hx9 hf
      refine q_blk 2 [] (c' := q_kc (t, r, m, z, N, ext, rx, L) I E 31 [some (.ref x0), some (.int x1), some (.int x2)] [.int x2, .int x1] [] []) ok_X8_joined rfl q_cn ?_
      refine q_kmx (pos' := 32) ok_X8_joined rfl rfl (Nat.le_trans (Nat.le_of_ble_eq_true rfl) hd) (Nat.le_of_ble_eq_true rfl) (Nat.le_of_ble_eq_true rfl) (Nat.le_of_ble_eq_true rfl) rfl ?_
      cases hf
      exact q_kri ok_X8_joined rfl rfl rfl (Nat.le_of_ble_eq_true rfl) (Nat.le_of_ble_eq_true rfl) ⟨rfl, q_hpe (q_fin [] rfl) (q_fin [] rfl)⟩
    | 4, ht9 =>
      have hx9 : (q_sw j1) = 21 := hx9
      cases ht9
      have hf := q_in (fun hz9 => absurd (hx9.symm.trans hz9) (by decide)) hf
      have hf := q_in (fun hz9 => absurd (hx9.symm.trans hz9) (by decide)) hf
      have hf := q_in (fun hz9 => absurd (hx9.symm.trans hz9) (by decide)) hf
      have hf := q_in (fun hz9 => absurd (hx9.symm.trans hz9) (by decide)) hf
      have hf := q_ip hx9 hf
      refine q_blk 1 [] (c' := q_kc (t, r, m, z, N, ext, rx, L) I E 82 [some (.ref x0), some (.int x1), some (.int x2)] [.int (0 : Int32)] [] []) ok_X8_joined rfl q_cn ?_
      cases hf
      exact q_kri ok_X8_joined rfl rfl rfl (Nat.le_of_ble_eq_true rfl) (Nat.le_of_ble_eq_true rfl) ⟨rfl, q_hpe (q_fin [] rfl) (q_fin [] rfl)⟩
    | 5, ht9 =>
      have hx9 : (q_sw j1) = 22 := hx9
      cases ht9
      have hf := q_in (fun hz9 => absurd (hx9.symm.trans hz9) (by decide)) hf
      have hf := q_in (fun hz9 => absurd (hx9.symm.trans hz9) (by decide)) hf
      have hf := q_in (fun hz9 => absurd (hx9.symm.trans hz9) (by decide)) hf
      have hf := q_in (fun hz9 => absurd (hx9.symm.trans hz9) (by decide)) hf
      have hf := q_in (fun hz9 => absurd (hx9.symm.trans hz9) (by decide)) hf
      have hf := q_ip hx9 hf
      refine q_blk 3 [] (c' := q_kc (t, r, m, z, N, ext, rx, L) I E 8 [some (.ref x0), some (.int x1), some (.int x2)] [.int (x1 + x2)] [] []) ok_X8_joined rfl q_cn ?_
      cases hf
      exact q_kri ok_X8_joined rfl rfl rfl (Nat.le_of_ble_eq_true rfl) (Nat.le_of_ble_eq_true rfl) ⟨rfl, q_hpe (q_fin [] rfl) (q_fin [] rfl)⟩
    | 6, ht9 =>
      have hx9 : (q_sw j1) = 23 := hx9
      cases ht9
      have hf := q_in (fun hz9 => absurd (hx9.symm.trans hz9) (by decide)) hf
      have hf := q_in (fun hz9 => absurd (hx9.symm.trans hz9) (by decide)) hf
      have hf := q_in (fun hz9 => absurd (hx9.symm.trans hz9) (by decide)) hf
      have hf := q_in (fun hz9 => absurd (hx9.symm.trans hz9) (by decide)) hf
      have hf := q_in (fun hz9 => absurd (hx9.symm.trans hz9) (by decide)) hf
      have hf := q_in (fun hz9 => absurd (hx9.symm.trans hz9) (by decide)) hf
      have hf := q_ip hx9 hf
      refine q_blk 3 [] (c' := q_kc (t, r, m, z, N, ext, rx, L) I E 16 [some (.ref x0), some (.int x1), some (.int x2)] [.int (x1 * x2)] [] []) ok_X8_joined rfl q_cn ?_
      cases hf
      exact q_kri ok_X8_joined rfl rfl rfl (Nat.le_of_ble_eq_true rfl) (Nat.le_of_ble_eq_true rfl) ⟨rfl, q_hpe (q_fin [] rfl) (q_fin [] rfl)⟩
    | 7, ht9 =>
      have hx9 : (q_sw j1) = 24 := hx9
      cases ht9
      have hf := q_in (fun hz9 => absurd (hx9.symm.trans hz9) (by decide)) hf
      have hf := q_in (fun hz9 => absurd (hx9.symm.trans hz9) (by decide)) hf
      have hf := q_in (fun hz9 => absurd (hx9.symm.trans hz9) (by decide)) hf
      have hf := q_in (fun hz9 => absurd (hx9.symm.trans hz9) (by decide)) hf
      have hf := q_in (fun hz9 => absurd (hx9.symm.trans hz9) (by decide)) hf
      have hf := q_in (fun hz9 => absurd (hx9.symm.trans hz9) (by decide)) hf
      have hf := q_in (fun hz9 => absurd (hx9.symm.trans hz9) (by decide)) hf
      have hf := q_ip hx9 hf
      refine q_blf 1 [] (a := q_kc (t, r, m, z, N, ext, rx, L) I E 21 [some (.ref x0), some (.int x1), some (.int x2)] [] [] []) (b := q_kc (t, r, m, z, N, ext, rx, L) I E 19 [some (.ref x0), some (.int x1), some (.int x2)] [] [] []) (P := ¬ x2 = 0) ok_X8_joined rfl q_cn (fun h2 => ?_) (fun h2 => ?_)
      · have hf := q_ip h2 hf
        obtain ⟨u3, hu4, hf⟩ := q_bd hf
        refine q_blk 2 [] (c' := q_kc (t, r, m, z, N, ext, rx, L) I E 23 [some (.ref x0), some (.int x1), some (.int x2)] [.int x2, .int x1] [] []) ok_X8_joined rfl q_cn ?_
        refine q_kdv (pos' := 24) ok_X8_joined rfl (q_nz_ne hu4) rfl ?_
        cases hf
        exact q_kri ok_X8_joined rfl rfl rfl (Nat.le_of_ble_eq_true rfl) (Nat.le_of_ble_eq_true rfl) ⟨rfl, q_hpe (q_fin [] rfl) (q_fin [] rfl)⟩
      · have hf := q_in h2 hf
        refine q_blk 2 [] (c' := q_kc (t, r, m, z, N, ext, rx, L) I E 24 [some (.ref x0), some (.int x1), some (.int x2)] [.int (0 : Int32)] [] []) ok_X8_joined rfl q_cn ?_
        cases hf
        exact q_kri ok_X8_joined rfl rfl rfl (Nat.le_of_ble_eq_true rfl) (Nat.le_of_ble_eq_true rfl) ⟨rfl, q_hpe (q_fin [] rfl) (q_fin [] rfl)⟩
    | 8, ht9 =>
      have hx9 : (q_sw j1) = 25 := hx9
      cases ht9
      have hf := q_in (fun hz9 => absurd (hx9.symm.trans hz9) (by decide)) hf
      have hf := q_in (fun hz9 => absurd (hx9.symm.trans hz9) (by decide)) hf
      have hf := q_in (fun hz9 => absurd (hx9.symm.trans hz9) (by decide)) hf
      have hf := q_in (fun hz9 => absurd (hx9.symm.trans hz9) (by decide)) hf
      have hf := q_in (fun hz9 => absurd (hx9.symm.trans hz9) (by decide)) hf
      have hf := q_in (fun hz9 => absurd (hx9.symm.trans hz9) (by decide)) hf
      have hf := q_in (fun hz9 => absurd (hx9.symm.trans hz9) (by decide)) hf
      have hf := q_in (fun hz9 => absurd (hx9.symm.trans hz9) (by decide)) hf
      have hf := q_ip hx9 hf
      refine q_blf 2 [] (a := q_kc (t, r, m, z, N, ext, rx, L) I E 38 [some (.ref x0), some (.int x1), some (.int x2)] [] [] []) (b := q_kc (t, r, m, z, N, ext, rx, L) I E 36 [some (.ref x0), some (.int x1), some (.int x2)] [] [] []) (P := x2 ≤ x1) ok_X8_joined rfl q_cn (fun h5 => ?_) (fun h5 => ?_)
      · have hf := q_ip h5 hf
        refine q_blk 1 [] (c' := q_kc (t, r, m, z, N, ext, rx, L) I E 39 [some (.ref x0), some (.int x1), some (.int x2)] [.int (0 : Int32)] [] []) ok_X8_joined rfl q_cn ?_
        obtain ⟨r6, hr6, hf⟩ := q_bd hf
        refine q_kS (M2 := m_X8_one) (As := [.int (0 : Int32)]) (v2 := some (.int r6)) ok_X8_joined ok_X8_one cs_X8_one (ct_X8_one (d := 1) (Nat.le_refl _) hr6) rfl rfl (Or.inl rfl) (Nat.le_trans (Nat.le_of_ble_eq_true rfl) hd) (Nat.le_of_ble_eq_true rfl) (Nat.le_of_ble_eq_true rfl) (Nat.le_of_ble_eq_true rfl) (fun x hx => absurd hx List.not_mem_nil) (q_nmL0 _) (q_nmS0 _) rfl (pos' := 40) (st' := [.int r6]) (lI' := []) (lE' := []) rfl rfl rfl rfl ?_
        cases hf
        exact q_kri ok_X8_joined rfl rfl rfl (Nat.le_of_ble_eq_true rfl) (Nat.le_of_ble_eq_true rfl) ⟨rfl, q_hpe (q_fin [] rfl) (q_fin [] rfl)⟩
      · have hf := q_in h5 hf
        refine q_blk 2 [] (c' := q_kc (t, r, m, z, N, ext, rx, L) I E 39 [some (.ref x0), some (.int x1), some (.int x2)] [.int (1 : Int32)] [] []) ok_X8_joined rfl q_cn ?_
        obtain ⟨r7, hr7, hf⟩ := q_bd hf
        refine q_kS (M2 := m_X8_one) (As := [.int (1 : Int32)]) (v2 := some (.int r7)) ok_X8_joined ok_X8_one cs_X8_one (ct_X8_one (d := 1) (Nat.le_refl _) hr7) rfl rfl (Or.inl rfl) (Nat.le_trans (Nat.le_of_ble_eq_true rfl) hd) (Nat.le_of_ble_eq_true rfl) (Nat.le_of_ble_eq_true rfl) (Nat.le_of_ble_eq_true rfl) (fun x hx => absurd hx List.not_mem_nil) (q_nmL0 _) (q_nmS0 _) rfl (pos' := 40) (st' := [.int r7]) (lI' := []) (lE' := []) rfl rfl rfl rfl ?_
        cases hf
        exact q_kri ok_X8_joined rfl rfl rfl (Nat.le_of_ble_eq_true rfl) (Nat.le_of_ble_eq_true rfl) ⟨rfl, q_hpe (q_fin [] rfl) (q_fin [] rfl)⟩
    | 9, ht9 =>
      have hx9 : (q_sw j1) = 26 := hx9
      cases ht9
      have hf := q_in (fun hz9 => absurd (hx9.symm.trans hz9) (by decide)) hf
      have hf := q_in (fun hz9 => absurd (hx9.symm.trans hz9) (by decide)) hf
      have hf := q_in (fun hz9 => absurd (hx9.symm.trans hz9) (by decide)) hf
      have hf := q_in (fun hz9 => absurd (hx9.symm.trans hz9) (by decide)) hf
      have hf := q_in (fun hz9 => absurd (hx9.symm.trans hz9) (by decide)) hf
      have hf := q_in (fun hz9 => absurd (hx9.symm.trans hz9) (by decide)) hf
      have hf := q_in (fun hz9 => absurd (hx9.symm.trans hz9) (by decide)) hf
      have hf := q_in (fun hz9 => absurd (hx9.symm.trans hz9) (by decide)) hf
      have hf := q_in (fun hz9 => absurd (hx9.symm.trans hz9) (by decide)) hf
      have hf := q_ip hx9 hf
      refine q_blf 2 [] (a := q_kc (t, r, m, z, N, ext, rx, L) I E 46 [some (.ref x0), some (.int x1), some (.int x2)] [] [] []) (b := q_kc (t, r, m, z, N, ext, rx, L) I E 44 [some (.ref x0), some (.int x1), some (.int x2)] [] [] []) (P := x1 ≤ x2) ok_X8_joined rfl q_cn (fun h8 => ?_) (fun h8 => ?_)
      · have hf := q_ip h8 hf
        refine q_blk 1 [] (c' := q_kc (t, r, m, z, N, ext, rx, L) I E 47 [some (.ref x0), some (.int x1), some (.int x2)] [.int (0 : Int32)] [] []) ok_X8_joined rfl q_cn ?_
        obtain ⟨r9, hr9, hf⟩ := q_bd hf
        refine q_kS (M2 := m_X8_one) (As := [.int (0 : Int32)]) (v2 := some (.int r9)) ok_X8_joined ok_X8_one cs_X8_one (ct_X8_one (d := 1) (Nat.le_refl _) hr9) rfl rfl (Or.inl rfl) (Nat.le_trans (Nat.le_of_ble_eq_true rfl) hd) (Nat.le_of_ble_eq_true rfl) (Nat.le_of_ble_eq_true rfl) (Nat.le_of_ble_eq_true rfl) (fun x hx => absurd hx List.not_mem_nil) (q_nmL0 _) (q_nmS0 _) rfl (pos' := 48) (st' := [.int r9]) (lI' := []) (lE' := []) rfl rfl rfl rfl ?_
        cases hf
        exact q_kri ok_X8_joined rfl rfl rfl (Nat.le_of_ble_eq_true rfl) (Nat.le_of_ble_eq_true rfl) ⟨rfl, q_hpe (q_fin [] rfl) (q_fin [] rfl)⟩
      · have hf := q_in h8 hf
        refine q_blk 2 [] (c' := q_kc (t, r, m, z, N, ext, rx, L) I E 47 [some (.ref x0), some (.int x1), some (.int x2)] [.int (1 : Int32)] [] []) ok_X8_joined rfl q_cn ?_
        obtain ⟨r10, hr10, hf⟩ := q_bd hf
        refine q_kS (M2 := m_X8_one) (As := [.int (1 : Int32)]) (v2 := some (.int r10)) ok_X8_joined ok_X8_one cs_X8_one (ct_X8_one (d := 1) (Nat.le_refl _) hr10) rfl rfl (Or.inl rfl) (Nat.le_trans (Nat.le_of_ble_eq_true rfl) hd) (Nat.le_of_ble_eq_true rfl) (Nat.le_of_ble_eq_true rfl) (Nat.le_of_ble_eq_true rfl) (fun x hx => absurd hx List.not_mem_nil) (q_nmL0 _) (q_nmS0 _) rfl (pos' := 48) (st' := [.int r10]) (lI' := []) (lE' := []) rfl rfl rfl rfl ?_
        cases hf
        exact q_kri ok_X8_joined rfl rfl rfl (Nat.le_of_ble_eq_true rfl) (Nat.le_of_ble_eq_true rfl) ⟨rfl, q_hpe (q_fin [] rfl) (q_fin [] rfl)⟩
    | 10, ht9 =>
      have hx9 : (q_sw j1) = 27 := hx9
      cases ht9
      have hf := q_in (fun hz9 => absurd (hx9.symm.trans hz9) (by decide)) hf
      have hf := q_in (fun hz9 => absurd (hx9.symm.trans hz9) (by decide)) hf
      have hf := q_in (fun hz9 => absurd (hx9.symm.trans hz9) (by decide)) hf
      have hf := q_in (fun hz9 => absurd (hx9.symm.trans hz9) (by decide)) hf
      have hf := q_in (fun hz9 => absurd (hx9.symm.trans hz9) (by decide)) hf
      have hf := q_in (fun hz9 => absurd (hx9.symm.trans hz9) (by decide)) hf
      have hf := q_in (fun hz9 => absurd (hx9.symm.trans hz9) (by decide)) hf
      have hf := q_in (fun hz9 => absurd (hx9.symm.trans hz9) (by decide)) hf
      have hf := q_in (fun hz9 => absurd (hx9.symm.trans hz9) (by decide)) hf
      have hf := q_in (fun hz9 => absurd (hx9.symm.trans hz9) (by decide)) hf
      have hf := q_ip hx9 hf
      refine q_blf 2 [] (a := q_kc (t, r, m, z, N, ext, rx, L) I E 54 [some (.ref x0), some (.int x1), some (.int x2)] [] [] []) (b := q_kc (t, r, m, z, N, ext, rx, L) I E 52 [some (.ref x0), some (.int x1), some (.int x2)] [] [] []) (P := ¬ x1 = x2) ok_X8_joined rfl q_cn (fun h11 => ?_) (fun h11 => ?_)
      · have hf := q_ip h11 hf
        refine q_blk 1 [] (c' := q_kc (t, r, m, z, N, ext, rx, L) I E 55 [some (.ref x0), some (.int x1), some (.int x2)] [.int (0 : Int32)] [] []) ok_X8_joined rfl q_cn ?_
        obtain ⟨r12, hr12, hf⟩ := q_bd hf
        refine q_kS (M2 := m_X8_one) (As := [.int (0 : Int32)]) (v2 := some (.int r12)) ok_X8_joined ok_X8_one cs_X8_one (ct_X8_one (d := 1) (Nat.le_refl _) hr12) rfl rfl (Or.inl rfl) (Nat.le_trans (Nat.le_of_ble_eq_true rfl) hd) (Nat.le_of_ble_eq_true rfl) (Nat.le_of_ble_eq_true rfl) (Nat.le_of_ble_eq_true rfl) (fun x hx => absurd hx List.not_mem_nil) (q_nmL0 _) (q_nmS0 _) rfl (pos' := 56) (st' := [.int r12]) (lI' := []) (lE' := []) rfl rfl rfl rfl ?_
        cases hf
        exact q_kri ok_X8_joined rfl rfl rfl (Nat.le_of_ble_eq_true rfl) (Nat.le_of_ble_eq_true rfl) ⟨rfl, q_hpe (q_fin [] rfl) (q_fin [] rfl)⟩
      · have hf := q_in h11 hf
        refine q_blk 2 [] (c' := q_kc (t, r, m, z, N, ext, rx, L) I E 55 [some (.ref x0), some (.int x1), some (.int x2)] [.int (1 : Int32)] [] []) ok_X8_joined rfl q_cn ?_
        obtain ⟨r13, hr13, hf⟩ := q_bd hf
        refine q_kS (M2 := m_X8_one) (As := [.int (1 : Int32)]) (v2 := some (.int r13)) ok_X8_joined ok_X8_one cs_X8_one (ct_X8_one (d := 1) (Nat.le_refl _) hr13) rfl rfl (Or.inl rfl) (Nat.le_trans (Nat.le_of_ble_eq_true rfl) hd) (Nat.le_of_ble_eq_true rfl) (Nat.le_of_ble_eq_true rfl) (Nat.le_of_ble_eq_true rfl) (fun x hx => absurd hx List.not_mem_nil) (q_nmL0 _) (q_nmS0 _) rfl (pos' := 56) (st' := [.int r13]) (lI' := []) (lE' := []) rfl rfl rfl rfl ?_
        cases hf
        exact q_kri ok_X8_joined rfl rfl rfl (Nat.le_of_ble_eq_true rfl) (Nat.le_of_ble_eq_true rfl) ⟨rfl, q_hpe (q_fin [] rfl) (q_fin [] rfl)⟩
    | 11, ht9 =>
      have hx9 : (q_sw j1) = 28 := hx9
      cases ht9
      have hf := q_in (fun hz9 => absurd (hx9.symm.trans hz9) (by decide)) hf
      have hf := q_in (fun hz9 => absurd (hx9.symm.trans hz9) (by decide)) hf
      have hf := q_in (fun hz9 => absurd (hx9.symm.trans hz9) (by decide)) hf
      have hf := q_in (fun hz9 => absurd (hx9.symm.trans hz9) (by decide)) hf
      have hf := q_in (fun hz9 => absurd (hx9.symm.trans hz9) (by decide)) hf
      have hf := q_in (fun hz9 => absurd (hx9.symm.trans hz9) (by decide)) hf
      have hf := q_in (fun hz9 => absurd (hx9.symm.trans hz9) (by decide)) hf
      have hf := q_in (fun hz9 => absurd (hx9.symm.trans hz9) (by decide)) hf
      have hf := q_in (fun hz9 => absurd (hx9.symm.trans hz9) (by decide)) hf
      have hf := q_in (fun hz9 => absurd (hx9.symm.trans hz9) (by decide)) hf
      have hf := q_in (fun hz9 => absurd (hx9.symm.trans hz9) (by decide)) hf
      have hf := q_ip hx9 hf
      refine q_blf 2 [] (a := q_kc (t, r, m, z, N, ext, rx, L) I E 62 [some (.ref x0), some (.int x1), some (.int x2)] [] [] []) (b := q_kc (t, r, m, z, N, ext, rx, L) I E 60 [some (.ref x0), some (.int x1), some (.int x2)] [] [] []) (P := x2 < x1) ok_X8_joined rfl q_cn (fun h14 => ?_) (fun h14 => ?_)
      · have hf := q_ip h14 hf
        refine q_blk 1 [] (c' := q_kc (t, r, m, z, N, ext, rx, L) I E 63 [some (.ref x0), some (.int x1), some (.int x2)] [.int (0 : Int32)] [] []) ok_X8_joined rfl q_cn ?_
        obtain ⟨r15, hr15, hf⟩ := q_bd hf
        refine q_kS (M2 := m_X8_one) (As := [.int (0 : Int32)]) (v2 := some (.int r15)) ok_X8_joined ok_X8_one cs_X8_one (ct_X8_one (d := 1) (Nat.le_refl _) hr15) rfl rfl (Or.inl rfl) (Nat.le_trans (Nat.le_of_ble_eq_true rfl) hd) (Nat.le_of_ble_eq_true rfl) (Nat.le_of_ble_eq_true rfl) (Nat.le_of_ble_eq_true rfl) (fun x hx => absurd hx List.not_mem_nil) (q_nmL0 _) (q_nmS0 _) rfl (pos' := 64) (st' := [.int r15]) (lI' := []) (lE' := []) rfl rfl rfl rfl ?_
        cases hf
        exact q_kri ok_X8_joined rfl rfl rfl (Nat.le_of_ble_eq_true rfl) (Nat.le_of_ble_eq_true rfl) ⟨rfl, q_hpe (q_fin [] rfl) (q_fin [] rfl)⟩
      · have hf := q_in h14 hf
        refine q_blk 2 [] (c' := q_kc (t, r, m, z, N, ext, rx, L) I E 63 [some (.ref x0), some (.int x1), some (.int x2)] [.int (1 : Int32)] [] []) ok_X8_joined rfl q_cn ?_
        obtain ⟨r16, hr16, hf⟩ := q_bd hf
        refine q_kS (M2 := m_X8_one) (As := [.int (1 : Int32)]) (v2 := some (.int r16)) ok_X8_joined ok_X8_one cs_X8_one (ct_X8_one (d := 1) (Nat.le_refl _) hr16) rfl rfl (Or.inl rfl) (Nat.le_trans (Nat.le_of_ble_eq_true rfl) hd) (Nat.le_of_ble_eq_true rfl) (Nat.le_of_ble_eq_true rfl) (Nat.le_of_ble_eq_true rfl) (fun x hx => absurd hx List.not_mem_nil) (q_nmL0 _) (q_nmS0 _) rfl (pos' := 64) (st' := [.int r16]) (lI' := []) (lE' := []) rfl rfl rfl rfl ?_
        cases hf
        exact q_kri ok_X8_joined rfl rfl rfl (Nat.le_of_ble_eq_true rfl) (Nat.le_of_ble_eq_true rfl) ⟨rfl, q_hpe (q_fin [] rfl) (q_fin [] rfl)⟩
    | 12, ht9 =>
      have hx9 : (q_sw j1) = 29 := hx9
      cases ht9
      have hf := q_in (fun hz9 => absurd (hx9.symm.trans hz9) (by decide)) hf
      have hf := q_in (fun hz9 => absurd (hx9.symm.trans hz9) (by decide)) hf
      have hf := q_in (fun hz9 => absurd (hx9.symm.trans hz9) (by decide)) hf
      have hf := q_in (fun hz9 => absurd (hx9.symm.trans hz9) (by decide)) hf
      have hf := q_in (fun hz9 => absurd (hx9.symm.trans hz9) (by decide)) hf
      have hf := q_in (fun hz9 => absurd (hx9.symm.trans hz9) (by decide)) hf
      have hf := q_in (fun hz9 => absurd (hx9.symm.trans hz9) (by decide)) hf
      have hf := q_in (fun hz9 => absurd (hx9.symm.trans hz9) (by decide)) hf
      have hf := q_in (fun hz9 => absurd (hx9.symm.trans hz9) (by decide)) hf
      have hf := q_in (fun hz9 => absurd (hx9.symm.trans hz9) (by decide)) hf
      have hf := q_in (fun hz9 => absurd (hx9.symm.trans hz9) (by decide)) hf
      have hf := q_in (fun hz9 => absurd (hx9.symm.trans hz9) (by decide)) hf
      have hf := q_ip hx9 hf
      refine q_blf 2 [] (a := q_kc (t, r, m, z, N, ext, rx, L) I E 70 [some (.ref x0), some (.int x1), some (.int x2)] [] [] []) (b := q_kc (t, r, m, z, N, ext, rx, L) I E 68 [some (.ref x0), some (.int x1), some (.int x2)] [] [] []) (P := x1 < x2) ok_X8_joined rfl q_cn (fun h17 => ?_) (fun h17 => ?_)
      · have hf := q_ip h17 hf
        refine q_blk 1 [] (c' := q_kc (t, r, m, z, N, ext, rx, L) I E 71 [some (.ref x0), some (.int x1), some (.int x2)] [.int (0 : Int32)] [] []) ok_X8_joined rfl q_cn ?_
        obtain ⟨r18, hr18, hf⟩ := q_bd hf
        refine q_kS (M2 := m_X8_one) (As := [.int (0 : Int32)]) (v2 := some (.int r18)) ok_X8_joined ok_X8_one cs_X8_one (ct_X8_one (d := 1) (Nat.le_refl _) hr18) rfl rfl (Or.inl rfl) (Nat.le_trans (Nat.le_of_ble_eq_true rfl) hd) (Nat.le_of_ble_eq_true rfl) (Nat.le_of_ble_eq_true rfl) (Nat.le_of_ble_eq_true rfl) (fun x hx => absurd hx List.not_mem_nil) (q_nmL0 _) (q_nmS0 _) rfl (pos' := 72) (st' := [.int r18]) (lI' := []) (lE' := []) rfl rfl rfl rfl ?_
        cases hf
        exact q_kri ok_X8_joined rfl rfl rfl (Nat.le_of_ble_eq_true rfl) (Nat.le_of_ble_eq_true rfl) ⟨rfl, q_hpe (q_fin [] rfl) (q_fin [] rfl)⟩
      · have hf := q_in h17 hf
        refine q_blk 2 [] (c' := q_kc (t, r, m, z, N, ext, rx, L) I E 71 [some (.ref x0), some (.int x1), some (.int x2)] [.int (1 : Int32)] [] []) ok_X8_joined rfl q_cn ?_
        obtain ⟨r19, hr19, hf⟩ := q_bd hf
        refine q_kS (M2 := m_X8_one) (As := [.int (1 : Int32)]) (v2 := some (.int r19)) ok_X8_joined ok_X8_one cs_X8_one (ct_X8_one (d := 1) (Nat.le_refl _) hr19) rfl rfl (Or.inl rfl) (Nat.le_trans (Nat.le_of_ble_eq_true rfl) hd) (Nat.le_of_ble_eq_true rfl) (Nat.le_of_ble_eq_true rfl) (Nat.le_of_ble_eq_true rfl) (fun x hx => absurd hx List.not_mem_nil) (q_nmL0 _) (q_nmS0 _) rfl (pos' := 72) (st' := [.int r19]) (lI' := []) (lE' := []) rfl rfl rfl rfl ?_
        cases hf
        exact q_kri ok_X8_joined rfl rfl rfl (Nat.le_of_ble_eq_true rfl) (Nat.le_of_ble_eq_true rfl) ⟨rfl, q_hpe (q_fin [] rfl) (q_fin [] rfl)⟩
    | 13, ht9 =>
      have hx9 : (q_sw j1) = 30 := hx9
      cases ht9
      have hf := q_in (fun hz9 => absurd (hx9.symm.trans hz9) (by decide)) hf
      have hf := q_in (fun hz9 => absurd (hx9.symm.trans hz9) (by decide)) hf
      have hf := q_in (fun hz9 => absurd (hx9.symm.trans hz9) (by decide)) hf
      have hf := q_in (fun hz9 => absurd (hx9.symm.trans hz9) (by decide)) hf
      have hf := q_in (fun hz9 => absurd (hx9.symm.trans hz9) (by decide)) hf
      have hf := q_in (fun hz9 => absurd (hx9.symm.trans hz9) (by decide)) hf
      have hf := q_in (fun hz9 => absurd (hx9.symm.trans hz9) (by decide)) hf
      have hf := q_in (fun hz9 => absurd (hx9.symm.trans hz9) (by decide)) hf
      have hf := q_in (fun hz9 => absurd (hx9.symm.trans hz9) (by decide)) hf
      have hf := q_in (fun hz9 => absurd (hx9.symm.trans hz9) (by decide)) hf
      have hf := q_in (fun hz9 => absurd (hx9.symm.trans hz9) (by decide)) hf
      have hf := q_in (fun hz9 => absurd (hx9.symm.trans hz9) (by decide)) hf
      have hf := q_in (fun hz9 => absurd (hx9.symm.trans hz9) (by decide)) hf
      have hf := q_ip hx9 hf
      refine q_blk 3 [] (c' := q_kc (t, r, m, z, N, ext, rx, L) I E 76 [some (.ref x0), some (.int x1), some (.int x2)] [.int (x1 &&& x2)] [] []) ok_X8_joined rfl q_cn ?_
      cases hf
      exact q_kri ok_X8_joined rfl rfl rfl (Nat.le_of_ble_eq_true rfl) (Nat.le_of_ble_eq_true rfl) ⟨rfl, q_hpe (q_fin [] rfl) (q_fin [] rfl)⟩
    | 14, ht9 =>
      have hx9 : (q_sw j1) = 31 := hx9
      cases ht9
      have hf := q_in (fun hz9 => absurd (hx9.symm.trans hz9) (by decide)) hf
      have hf := q_in (fun hz9 => absurd (hx9.symm.trans hz9) (by decide)) hf
      have hf := q_in (fun hz9 => absurd (hx9.symm.trans hz9) (by decide)) hf
      have hf := q_in (fun hz9 => absurd (hx9.symm.trans hz9) (by decide)) hf
      have hf := q_in (fun hz9 => absurd (hx9.symm.trans hz9) (by decide)) hf
      have hf := q_in (fun hz9 => absurd (hx9.symm.trans hz9) (by decide)) hf
      have hf := q_in (fun hz9 => absurd (hx9.symm.trans hz9) (by decide)) hf
      have hf := q_in (fun hz9 => absurd (hx9.symm.trans hz9) (by decide)) hf
      have hf := q_in (fun hz9 => absurd (hx9.symm.trans hz9) (by decide)) hf
      have hf := q_in (fun hz9 => absurd (hx9.symm.trans hz9) (by decide)) hf
      have hf := q_in (fun hz9 => absurd (hx9.symm.trans hz9) (by decide)) hf
      have hf := q_in (fun hz9 => absurd (hx9.symm.trans hz9) (by decide)) hf
      have hf := q_in (fun hz9 => absurd (hx9.symm.trans hz9) (by decide)) hf
      have hf := q_in (fun hz9 => absurd (hx9.symm.trans hz9) (by decide)) hf
      have hf := q_ip hx9 hf
      refine q_blk 3 [] (c' := q_kc (t, r, m, z, N, ext, rx, L) I E 80 [some (.ref x0), some (.int x1), some (.int x2)] [.int (x1 ||| x2)] [] []) ok_X8_joined rfl q_cn ?_
      cases hf
      exact q_kri ok_X8_joined rfl rfl rfl (Nat.le_of_ble_eq_true rfl) (Nat.le_of_ble_eq_true rfl) ⟨rfl, q_hpe (q_fin [] rfl) (q_fin [] rfl)⟩
    | z9 + 15, ht9 => cases ht9
  · have hf := q_in (hx9 0 (by decide)) hf
    have hf := q_in (hx9 1 (by decide)) hf
    have hf := q_in (hx9 2 (by decide)) hf
    have hf := q_in (hx9 3 (by decide)) hf
    have hf := q_in (hx9 4 (by decide)) hf
    have hf := q_in (hx9 5 (by decide)) hf
    have hf := q_in (hx9 6 (by decide)) hf
    have hf := q_in (hx9 7 (by decide)) hf
    have hf := q_in (hx9 8 (by decide)) hf
    have hf := q_in (hx9 9 (by decide)) hf
    have hf := q_in (hx9 10 (by decide)) hf
    have hf := q_in (hx9 11 (by decide)) hf
    have hf := q_in (hx9 12 (by decide)) hf
    have hf := q_in (hx9 13 (by decide)) hf
    have hf := q_in (hx9 14 (by decide)) hf
    refine q_blk 1 [] (c' := q_kc (t, r, m, z, N, ext, rx, L) I E 82 [some (.ref x0), some (.int x1), some (.int x2)] [.int (0 : Int32)] [] []) ok_X8_joined rfl q_cn ?_
    cases hf
    exact q_kri ok_X8_joined rfl rfl rfl (Nat.le_of_ble_eq_true rfl) (Nat.le_of_ble_eq_true rfl) ⟨rfl, q_hpe (q_fin [] rfl) (q_fin [] rfl)⟩
set_option maxHeartbeats 4000000 in
theorem ct_X8_obey_490_457 {g : q_G} {t : Nat} {r : Nat} {m : Nat} {z : Nat} {N : Nat} {ext : Nat → q_Sh} {rx : Nat → Nat → Option Nat} {L : Nat → Nat → Int64} {d : Nat} (hd : 3 ≤ d)  {I : Nat → Nat → Int32} {E : Nat → Nat → Option Nat} {x2 : Nat} {x3 : Int32} {r0 : (Nat → Int32) × (Nat → Int32)} (hf : f_X8_obey (I 402) (I 457) (I 461) (I 462) (I 465) (I 470) (I 490) (I 491) x2 x3 = some r0) : q_Ct g m_X8_obey d 0 0 [] [.ref 490, .ref 457, .ref x2, .int x3] (q_hp (t, r, m, z, N, ext, rx, L) I E) (fun o h' => o = .inl none ∧ h' = q_hp (t, r, m, z, N, ext, rx, L) (q_ws I [(490, r0.1), (491, r0.2)]) (q_ws E [])) := by
  rw [f_X8_obey] at hf
  refine q_Ct_of ok_X8_obey (Nat.le_of_ble_eq_true rfl) ?_ _ rfl rfl
  change q_J g m_X8_obey d 0 0 _ [] _ 0 0 (q_kc (t, r, m, z, N, ext, rx, L) I E 0 [some (.ref 490), some (.ref 457), some (.ref x2), some (.int x3), none] [] [] [])
  obtain ⟨ug2, hg2, hf⟩ := q_bd hf
  refine q_blk 2 [] (c' := q_kc (t, r, m, z, N, ext, rx, L) I E 2 [some (.ref 490), some (.ref 457), some (.ref x2), some (.int x3), none] [.ref x2, .ref 50] [] []) ok_X8_obey rfl q_cn ?_
  refine q_kord (pos' := 3) ok_X8_obey rfl (Or.inl rfl) (q_e49_lt hg2) (Nat.le_trans (Nat.le_of_ble_eq_true rfl) hd) (Nat.le_of_ble_eq_true rfl) (Nat.le_of_ble_eq_true rfl) rfl ?_
  obtain ⟨j1, hj1, hf⟩ := q_bd hf
  refine q_blk 1 [j1] (c' := q_kc (t, r, m, z, N, ext, rx, L) I E 4 [some (.ref 490), some (.ref 457), some (.ref x2), some (.int x3), none] [.int (q_sw j1)] [] []) ok_X8_obey rfl (q_cc hj1 q_cn) ?_
  refine q_ksw [11, 25, 18, 18, 18, 18, 18, 18, 18, 18, 18, 18, 25, 25, 25, 25, 5] ok_X8_obey rfl (dp := 25) rfl (fun ix t9 ht9 hx9 => ?_) (fun hx9 => ?_) (by decide) (by decide)
  · match ix, ht9 with
    | 0, ht9 =>
      have hx9 : (q_sw j1) = 5 := hx9
      cases ht9
      have hf := q_ip hx9 hf
      refine q_blk 3 [] (c' := q_kc (t, r, m, z, N, ext, rx, L) I E 14 [some (.ref 490), some (.ref 457), some (.ref x2), some (.int x3), none] [.ref 490, .int (1 : Int32), .ref 490] [] []) ok_X8_obey rfl q_cn ?_
      obtain ⟨r2, hr2, hf⟩ := q_bd hf
      refine q_kV (M2 := m_X8_pop) (As := []) (b := 490) (v2 := some (.int r2.1)) ok_X8_obey ok_X8_pop cv_X8_pop (ct_X8_pop_490 (d := 1) (Nat.le_refl _) hr2) rfl rfl (Or.inl rfl) rfl rfl rfl rfl (Nat.le_trans (Nat.le_of_ble_eq_true rfl) hd) (Nat.le_of_ble_eq_true rfl) (Nat.le_of_ble_eq_true rfl) (Nat.le_of_ble_eq_true rfl) (fun x hx => absurd hx List.not_mem_nil) (q_nmL0 _) (q_nmS0 _) rfl (pos' := 15) (st' := [.int r2.1, .int (1 : Int32), .ref 490]) (lI' := [(490, r2.2)]) (lE' := []) rfl rfl rfl rfl ?_
      refine q_blk 1 [] (c' := q_kc (t, r, m, z, N, ext, rx, L) I E 16 [some (.ref 490), some (.ref 457), some (.ref x2), some (.int x3), none] [.int ((1 : Int32) - r2.1), .ref 490] [(490, r2.2)] []) ok_X8_obey rfl q_cn ?_
      obtain ⟨r3, hr3, hf⟩ := q_bd hf
      refine q_kV (M2 := m_X8_push) (As := [.int ((1 : Int32) - r2.1)]) (b := 490) (v2 := none) ok_X8_obey ok_X8_push cv_X8_push (ct_X8_push_490 (d := 1) (Nat.le_refl _) hr3) rfl rfl (Or.inl rfl) rfl rfl rfl rfl (Nat.le_trans (Nat.le_of_ble_eq_true rfl) hd) (Nat.le_of_ble_eq_true rfl) (Nat.le_of_ble_eq_true rfl) (Nat.le_of_ble_eq_true rfl) (fun x hx => absurd hx List.not_mem_nil) (q_nmL0 _) (q_nmS0 _) rfl (pos' := 17) (st' := []) (lI' := [(490, r3.1), (491, r3.2)]) (lE' := []) rfl rfl rfl rfl ?_
      refine q_blk 1 [] (c' := q_kc (t, r, m, z, N, ext, rx, L) I E 35 [some (.ref 490), some (.ref 457), some (.ref x2), some (.int x3), none] [] [(490, r3.1), (491, r3.2)] []) ok_X8_obey rfl q_cn ?_
      cases hf
      exact q_krv ok_X8_obey rfl rfl (Nat.le_of_ble_eq_true rfl) (Nat.le_of_ble_eq_true rfl) ⟨rfl, q_hpe (q_fin [490, 491] rfl) (q_fin [] rfl)⟩
    | 1, ht9 =>
      have hx9 : (q_sw j1) = 6 := hx9
      cases ht9
      have hf := q_in (fun hz9 => absurd (hx9.symm.trans hz9) (by decide)) hf
      have hf := q_ip hx9 hf
      refine q_blk 1 [] (c' := q_kc (t, r, m, z, N, ext, rx, L) I E 26 [some (.ref 490), some (.ref 457), some (.ref x2), some (.int x3), none] [.ref 490] [] []) ok_X8_obey rfl q_cn ?_
      obtain ⟨r4, hr4, hf⟩ := q_bd hf
      refine q_kV (M2 := m_X8_pop) (As := []) (b := 490) (v2 := some (.int r4.1)) ok_X8_obey ok_X8_pop cv_X8_pop (ct_X8_pop_490 (d := 1) (Nat.le_refl _) hr4) rfl rfl (Or.inl rfl) rfl rfl rfl rfl (Nat.le_trans (Nat.le_of_ble_eq_true rfl) hd) (Nat.le_of_ble_eq_true rfl) (Nat.le_of_ble_eq_true rfl) (Nat.le_of_ble_eq_true rfl) (fun x hx => absurd hx List.not_mem_nil) (q_nmL0 _) (q_nmS0 _) rfl (pos' := 27) (st' := [.int r4.1]) (lI' := [(490, r4.2)]) (lE' := []) rfl rfl rfl rfl ?_
      refine q_blk 4 [] (c' := q_kc (t, r, m, z, N, ext, rx, L) I E 31 [some (.ref 490), some (.ref 457), some (.ref x2), some (.int x3), some (.int r4.1)] [.ref 490, .ref x2, .ref 490] [(490, r4.2)] []) ok_X8_obey rfl q_cn ?_
      obtain ⟨r5, hr5, hf⟩ := q_bd hf
      refine q_kV (M2 := m_X8_pop) (As := []) (b := 490) (v2 := some (.int r5.1)) ok_X8_obey ok_X8_pop cv_X8_pop (ct_X8_pop_490 (d := 1) (Nat.le_refl _) hr5) rfl rfl (Or.inl rfl) rfl rfl rfl rfl (Nat.le_trans (Nat.le_of_ble_eq_true rfl) hd) (Nat.le_of_ble_eq_true rfl) (Nat.le_of_ble_eq_true rfl) (Nat.le_of_ble_eq_true rfl) (fun x hx => absurd hx List.not_mem_nil) (q_nmL0 _) (q_nmS0 _) rfl (pos' := 32) (st' := [.int r5.1, .ref x2, .ref 490]) (lI' := [(490, r5.2)]) (lE' := []) rfl rfl rfl rfl ?_
      refine q_blk 1 [] (c' := q_kc (t, r, m, z, N, ext, rx, L) I E 33 [some (.ref 490), some (.ref 457), some (.ref x2), some (.int x3), some (.int r4.1)] [.int r4.1, .int r5.1, .ref x2, .ref 490] [(490, r5.2)] []) ok_X8_obey rfl q_cn ?_
      obtain ⟨r6, hr6, hf⟩ := q_bd hf
      refine q_kS (M2 := m_X8_joined) (As := [.ref x2, .int r5.1, .int r4.1]) (v2 := some (.int r6)) ok_X8_obey ok_X8_joined cs_X8_joined (ct_X8_joined (d := 2) (Nat.le_refl _) hr6) rfl rfl (Or.inl rfl) (Nat.le_trans (Nat.le_of_ble_eq_true rfl) hd) (Nat.le_of_ble_eq_true rfl) (Nat.le_of_ble_eq_true rfl) (Nat.le_of_ble_eq_true rfl) (fun x hx => absurd hx List.not_mem_nil) (q_nmL0 _) (q_nmS0 _) rfl (pos' := 34) (st' := [.int r6, .ref 490]) (lI' := [(490, r5.2)]) (lE' := []) rfl rfl rfl rfl ?_
      obtain ⟨r7, hr7, hf⟩ := q_bd hf
      refine q_kV (M2 := m_X8_push) (As := [.int r6]) (b := 490) (v2 := none) ok_X8_obey ok_X8_push cv_X8_push (ct_X8_push_490 (d := 1) (Nat.le_refl _) hr7) rfl rfl (Or.inl rfl) rfl rfl rfl rfl (Nat.le_trans (Nat.le_of_ble_eq_true rfl) hd) (Nat.le_of_ble_eq_true rfl) (Nat.le_of_ble_eq_true rfl) (Nat.le_of_ble_eq_true rfl) (fun x hx => absurd hx List.not_mem_nil) (q_nmL0 _) (q_nmS0 _) rfl (pos' := 35) (st' := []) (lI' := [(490, r7.1), (491, r7.2)]) (lE' := []) rfl rfl rfl rfl ?_
      cases hf
      exact q_krv ok_X8_obey rfl rfl (Nat.le_of_ble_eq_true rfl) (Nat.le_of_ble_eq_true rfl) ⟨rfl, q_hpe (q_fin [490, 491] rfl) (q_fin [] rfl)⟩
    | 2, ht9 =>
      have hx9 : (q_sw j1) = 7 := hx9
      cases ht9
      have hf := q_in (fun hz9 => absurd (hx9.symm.trans hz9) (by decide)) hf
      have hf := q_in (fun hz9 => absurd (hx9.symm.trans hz9) (by decide)) hf
      have hf := q_ip hx9 hf
      refine q_blk 4 [] (c' := q_kc (t, r, m, z, N, ext, rx, L) I E 22 [some (.ref 490), some (.ref 457), some (.ref x2), some (.int x3), none] [.int x3, .ref x2, .ref 457, .ref 490] [] []) ok_X8_obey rfl q_cn ?_
      obtain ⟨r8, hr8, hf⟩ := q_bd hf
      refine q_kS (M2 := m_X8_value) (As := [.ref 457, .ref x2, .int x3]) (v2 := some (.int r8)) ok_X8_obey ok_X8_value cs_X8_value (ct_X8_value_457 (d := 2) (Nat.le_refl _) hr8) rfl rfl (Or.inl rfl) (Nat.le_trans (Nat.le_of_ble_eq_true rfl) hd) (Nat.le_of_ble_eq_true rfl) (Nat.le_of_ble_eq_true rfl) (Nat.le_of_ble_eq_true rfl) (fun x hx => absurd hx List.not_mem_nil) (q_nmL0 _) (q_nmS0 _) rfl (pos' := 23) (st' := [.int r8, .ref 490]) (lI' := []) (lE' := []) rfl rfl rfl rfl ?_
      obtain ⟨r9, hr9, hf⟩ := q_bd hf
      refine q_kV (M2 := m_X8_push) (As := [.int r8]) (b := 490) (v2 := none) ok_X8_obey ok_X8_push cv_X8_push (ct_X8_push_490 (d := 1) (Nat.le_refl _) hr9) rfl rfl (Or.inl rfl) rfl rfl rfl rfl (Nat.le_trans (Nat.le_of_ble_eq_true rfl) hd) (Nat.le_of_ble_eq_true rfl) (Nat.le_of_ble_eq_true rfl) (Nat.le_of_ble_eq_true rfl) (fun x hx => absurd hx List.not_mem_nil) (q_nmL0 _) (q_nmS0 _) rfl (pos' := 24) (st' := []) (lI' := [(490, r9.1), (491, r9.2)]) (lE' := []) rfl rfl rfl rfl ?_
      refine q_blk 1 [] (c' := q_kc (t, r, m, z, N, ext, rx, L) I E 35 [some (.ref 490), some (.ref 457), some (.ref x2), some (.int x3), none] [] [(490, r9.1), (491, r9.2)] []) ok_X8_obey rfl q_cn ?_
      cases hf
      exact q_krv ok_X8_obey rfl rfl (Nat.le_of_ble_eq_true rfl) (Nat.le_of_ble_eq_true rfl) ⟨rfl, q_hpe (q_fin [490, 491] rfl) (q_fin [] rfl)⟩
    | 3, ht9 =>
      have hx9 : (q_sw j1) = 8 := hx9
      cases ht9
      have hf := q_in (fun hz9 => absurd (hx9.symm.trans hz9) (by decide)) hf
      have hf := q_in (fun hz9 => absurd (hx9.symm.trans hz9) (by decide)) hf
      have hf := q_in (fun hz9 => absurd (hx9.symm.trans hz9) (by decide)) hf
      have hf := q_ip hx9 hf
      refine q_blk 4 [] (c' := q_kc (t, r, m, z, N, ext, rx, L) I E 22 [some (.ref 490), some (.ref 457), some (.ref x2), some (.int x3), none] [.int x3, .ref x2, .ref 457, .ref 490] [] []) ok_X8_obey rfl q_cn ?_
      obtain ⟨r10, hr10, hf⟩ := q_bd hf
      refine q_kS (M2 := m_X8_value) (As := [.ref 457, .ref x2, .int x3]) (v2 := some (.int r10)) ok_X8_obey ok_X8_value cs_X8_value (ct_X8_value_457 (d := 2) (Nat.le_refl _) hr10) rfl rfl (Or.inl rfl) (Nat.le_trans (Nat.le_of_ble_eq_true rfl) hd) (Nat.le_of_ble_eq_true rfl) (Nat.le_of_ble_eq_true rfl) (Nat.le_of_ble_eq_true rfl) (fun x hx => absurd hx List.not_mem_nil) (q_nmL0 _) (q_nmS0 _) rfl (pos' := 23) (st' := [.int r10, .ref 490]) (lI' := []) (lE' := []) rfl rfl rfl rfl ?_
      obtain ⟨r11, hr11, hf⟩ := q_bd hf
      refine q_kV (M2 := m_X8_push) (As := [.int r10]) (b := 490) (v2 := none) ok_X8_obey ok_X8_push cv_X8_push (ct_X8_push_490 (d := 1) (Nat.le_refl _) hr11) rfl rfl (Or.inl rfl) rfl rfl rfl rfl (Nat.le_trans (Nat.le_of_ble_eq_true rfl) hd) (Nat.le_of_ble_eq_true rfl) (Nat.le_of_ble_eq_true rfl) (Nat.le_of_ble_eq_true rfl) (fun x hx => absurd hx List.not_mem_nil) (q_nmL0 _) (q_nmS0 _) rfl (pos' := 24) (st' := []) (lI' := [(490, r11.1), (491, r11.2)]) (lE' := []) rfl rfl rfl rfl ?_
      refine q_blk 1 [] (c' := q_kc (t, r, m, z, N, ext, rx, L) I E 35 [some (.ref 490), some (.ref 457), some (.ref x2), some (.int x3), none] [] [(490, r11.1), (491, r11.2)] []) ok_X8_obey rfl q_cn ?_
      cases hf
      exact q_krv ok_X8_obey rfl rfl (Nat.le_of_ble_eq_true rfl) (Nat.le_of_ble_eq_true rfl) ⟨rfl, q_hpe (q_fin [490, 491] rfl) (q_fin [] rfl)⟩
    | 4, ht9 =>
      have hx9 : (q_sw j1) = 9 := hx9
      cases ht9
      have hf := q_in (fun hz9 => absurd (hx9.symm.trans hz9) (by decide)) hf
      have hf := q_in (fun hz9 => absurd (hx9.symm.trans hz9) (by decide)) hf
      have hf := q_in (fun hz9 => absurd (hx9.symm.trans hz9) (by decide)) hf
      have hf := q_in (fun hz9 => absurd (hx9.symm.trans hz9) (by decide)) hf
      have hf := q_ip hx9 hf
      refine q_blk 4 [] (c' := q_kc (t, r, m, z, N, ext, rx, L) I E 22 [some (.ref 490), some (.ref 457), some (.ref x2), some (.int x3), none] [.int x3, .ref x2, .ref 457, .ref 490] [] []) ok_X8_obey rfl q_cn ?_
      obtain ⟨r12, hr12, hf⟩ := q_bd hf
      refine q_kS (M2 := m_X8_value) (As := [.ref 457, .ref x2, .int x3]) (v2 := some (.int r12)) ok_X8_obey ok_X8_value cs_X8_value (ct_X8_value_457 (d := 2) (Nat.le_refl _) hr12) rfl rfl (Or.inl rfl) (Nat.le_trans (Nat.le_of_ble_eq_true rfl) hd) (Nat.le_of_ble_eq_true rfl) (Nat.le_of_ble_eq_true rfl) (Nat.le_of_ble_eq_true rfl) (fun x hx => absurd hx List.not_mem_nil) (q_nmL0 _) (q_nmS0 _) rfl (pos' := 23) (st' := [.int r12, .ref 490]) (lI' := []) (lE' := []) rfl rfl rfl rfl ?_
      obtain ⟨r13, hr13, hf⟩ := q_bd hf
      refine q_kV (M2 := m_X8_push) (As := [.int r12]) (b := 490) (v2 := none) ok_X8_obey ok_X8_push cv_X8_push (ct_X8_push_490 (d := 1) (Nat.le_refl _) hr13) rfl rfl (Or.inl rfl) rfl rfl rfl rfl (Nat.le_trans (Nat.le_of_ble_eq_true rfl) hd) (Nat.le_of_ble_eq_true rfl) (Nat.le_of_ble_eq_true rfl) (Nat.le_of_ble_eq_true rfl) (fun x hx => absurd hx List.not_mem_nil) (q_nmL0 _) (q_nmS0 _) rfl (pos' := 24) (st' := []) (lI' := [(490, r13.1), (491, r13.2)]) (lE' := []) rfl rfl rfl rfl ?_
      refine q_blk 1 [] (c' := q_kc (t, r, m, z, N, ext, rx, L) I E 35 [some (.ref 490), some (.ref 457), some (.ref x2), some (.int x3), none] [] [(490, r13.1), (491, r13.2)] []) ok_X8_obey rfl q_cn ?_
      cases hf
      exact q_krv ok_X8_obey rfl rfl (Nat.le_of_ble_eq_true rfl) (Nat.le_of_ble_eq_true rfl) ⟨rfl, q_hpe (q_fin [490, 491] rfl) (q_fin [] rfl)⟩
    | 5, ht9 =>
      have hx9 : (q_sw j1) = 10 := hx9
      cases ht9
      have hf := q_in (fun hz9 => absurd (hx9.symm.trans hz9) (by decide)) hf
      have hf := q_in (fun hz9 => absurd (hx9.symm.trans hz9) (by decide)) hf
      have hf := q_in (fun hz9 => absurd (hx9.symm.trans hz9) (by decide)) hf
      have hf := q_in (fun hz9 => absurd (hx9.symm.trans hz9) (by decide)) hf
      have hf := q_in (fun hz9 => absurd (hx9.symm.trans hz9) (by decide)) hf
      have hf := q_ip hx9 hf
      refine q_blk 4 [] (c' := q_kc (t, r, m, z, N, ext, rx, L) I E 22 [some (.ref 490), some (.ref 457), some (.ref x2), some (.int x3), none] [.int x3, .ref x2, .ref 457, .ref 490] [] []) ok_X8_obey rfl q_cn ?_
      obtain ⟨r14, hr14, hf⟩ := q_bd hf
      refine q_kS (M2 := m_X8_value) (As := [.ref 457, .ref x2, .int x3]) (v2 := some (.int r14)) ok_X8_obey ok_X8_value cs_X8_value (ct_X8_value_457 (d := 2) (Nat.le_refl _) hr14) rfl rfl (Or.inl rfl) (Nat.le_trans (Nat.le_of_ble_eq_true rfl) hd) (Nat.le_of_ble_eq_true rfl) (Nat.le_of_ble_eq_true rfl) (Nat.le_of_ble_eq_true rfl) (fun x hx => absurd hx List.not_mem_nil) (q_nmL0 _) (q_nmS0 _) rfl (pos' := 23) (st' := [.int r14, .ref 490]) (lI' := []) (lE' := []) rfl rfl rfl rfl ?_
      obtain ⟨r15, hr15, hf⟩ := q_bd hf
      refine q_kV (M2 := m_X8_push) (As := [.int r14]) (b := 490) (v2 := none) ok_X8_obey ok_X8_push cv_X8_push (ct_X8_push_490 (d := 1) (Nat.le_refl _) hr15) rfl rfl (Or.inl rfl) rfl rfl rfl rfl (Nat.le_trans (Nat.le_of_ble_eq_true rfl) hd) (Nat.le_of_ble_eq_true rfl) (Nat.le_of_ble_eq_true rfl) (Nat.le_of_ble_eq_true rfl) (fun x hx => absurd hx List.not_mem_nil) (q_nmL0 _) (q_nmS0 _) rfl (pos' := 24) (st' := []) (lI' := [(490, r15.1), (491, r15.2)]) (lE' := []) rfl rfl rfl rfl ?_
      refine q_blk 1 [] (c' := q_kc (t, r, m, z, N, ext, rx, L) I E 35 [some (.ref 490), some (.ref 457), some (.ref x2), some (.int x3), none] [] [(490, r15.1), (491, r15.2)] []) ok_X8_obey rfl q_cn ?_
      cases hf
      exact q_krv ok_X8_obey rfl rfl (Nat.le_of_ble_eq_true rfl) (Nat.le_of_ble_eq_true rfl) ⟨rfl, q_hpe (q_fin [490, 491] rfl) (q_fin [] rfl)⟩
    | 6, ht9 =>
      have hx9 : (q_sw j1) = 11 := hx9
      cases ht9
      have hf := q_in (fun hz9 => absurd (hx9.symm.trans hz9) (by decide)) hf
      have hf := q_in (fun hz9 => absurd (hx9.symm.trans hz9) (by decide)) hf
      have hf := q_in (fun hz9 => absurd (hx9.symm.trans hz9) (by decide)) hf
      have hf := q_in (fun hz9 => absurd (hx9.symm.trans hz9) (by decide)) hf
      have hf := q_in (fun hz9 => absurd (hx9.symm.trans hz9) (by decide)) hf
      have hf := q_in (fun hz9 => absurd (hx9.symm.trans hz9) (by decide)) hf
      have hf := q_ip hx9 hf
      refine q_blk 4 [] (c' := q_kc (t, r, m, z, N, ext, rx, L) I E 22 [some (.ref 490), some (.ref 457), some (.ref x2), some (.int x3), none] [.int x3, .ref x2, .ref 457, .ref 490] [] []) ok_X8_obey rfl q_cn ?_
      obtain ⟨r16, hr16, hf⟩ := q_bd hf
      refine q_kS (M2 := m_X8_value) (As := [.ref 457, .ref x2, .int x3]) (v2 := some (.int r16)) ok_X8_obey ok_X8_value cs_X8_value (ct_X8_value_457 (d := 2) (Nat.le_refl _) hr16) rfl rfl (Or.inl rfl) (Nat.le_trans (Nat.le_of_ble_eq_true rfl) hd) (Nat.le_of_ble_eq_true rfl) (Nat.le_of_ble_eq_true rfl) (Nat.le_of_ble_eq_true rfl) (fun x hx => absurd hx List.not_mem_nil) (q_nmL0 _) (q_nmS0 _) rfl (pos' := 23) (st' := [.int r16, .ref 490]) (lI' := []) (lE' := []) rfl rfl rfl rfl ?_
      obtain ⟨r17, hr17, hf⟩ := q_bd hf
      refine q_kV (M2 := m_X8_push) (As := [.int r16]) (b := 490) (v2 := none) ok_X8_obey ok_X8_push cv_X8_push (ct_X8_push_490 (d := 1) (Nat.le_refl _) hr17) rfl rfl (Or.inl rfl) rfl rfl rfl rfl (Nat.le_trans (Nat.le_of_ble_eq_true rfl) hd) (Nat.le_of_ble_eq_true rfl) (Nat.le_of_ble_eq_true rfl) (Nat.le_of_ble_eq_true rfl) (fun x hx => absurd hx List.not_mem_nil) (q_nmL0 _) (q_nmS0 _) rfl (pos' := 24) (st' := []) (lI' := [(490, r17.1), (491, r17.2)]) (lE' := []) rfl rfl rfl rfl ?_
      refine q_blk 1 [] (c' := q_kc (t, r, m, z, N, ext, rx, L) I E 35 [some (.ref 490), some (.ref 457), some (.ref x2), some (.int x3), none] [] [(490, r17.1), (491, r17.2)] []) ok_X8_obey rfl q_cn ?_
      cases hf
      exact q_krv ok_X8_obey rfl rfl (Nat.le_of_ble_eq_true rfl) (Nat.le_of_ble_eq_true rfl) ⟨rfl, q_hpe (q_fin [490, 491] rfl) (q_fin [] rfl)⟩
    | 7, ht9 =>
      have hx9 : (q_sw j1) = 12 := hx9
      cases ht9
      have hf := q_in (fun hz9 => absurd (hx9.symm.trans hz9) (by decide)) hf
      have hf := q_in (fun hz9 => absurd (hx9.symm.trans hz9) (by decide)) hf
      have hf := q_in (fun hz9 => absurd (hx9.symm.trans hz9) (by decide)) hf
      have hf := q_in (fun hz9 => absurd (hx9.symm.trans hz9) (by decide)) hf
      have hf := q_in (fun hz9 => absurd (hx9.symm.trans hz9) (by decide)) hf
      have hf := q_in (fun hz9 => absurd (hx9.symm.trans hz9) (by decide)) hf
      have hf := q_in (fun hz9 => absurd (hx9.symm.trans hz9) (by decide)) hf
      have hf := q_ip hx9 hf
      refine q_blk 4 [] (c' := q_kc (t, r, m, z, N, ext, rx, L) I E 22 [some (.ref 490), some (.ref 457), some (.ref x2), some (.int x3), none] [.int x3, .ref x2, .ref 457, .ref 490] [] []) ok_X8_obey rfl q_cn ?_
      obtain ⟨r18, hr18, hf⟩ := q_bd hf
      refine q_kS (M2 := m_X8_value) (As := [.ref 457, .ref x2, .int x3]) (v2 := some (.int r18)) ok_X8_obey ok_X8_value cs_X8_value (ct_X8_value_457 (d := 2) (Nat.le_refl _) hr18) rfl rfl (Or.inl rfl) (Nat.le_trans (Nat.le_of_ble_eq_true rfl) hd) (Nat.le_of_ble_eq_true rfl) (Nat.le_of_ble_eq_true rfl) (Nat.le_of_ble_eq_true rfl) (fun x hx => absurd hx List.not_mem_nil) (q_nmL0 _) (q_nmS0 _) rfl (pos' := 23) (st' := [.int r18, .ref 490]) (lI' := []) (lE' := []) rfl rfl rfl rfl ?_
      obtain ⟨r19, hr19, hf⟩ := q_bd hf
      refine q_kV (M2 := m_X8_push) (As := [.int r18]) (b := 490) (v2 := none) ok_X8_obey ok_X8_push cv_X8_push (ct_X8_push_490 (d := 1) (Nat.le_refl _) hr19) rfl rfl (Or.inl rfl) rfl rfl rfl rfl (Nat.le_trans (Nat.le_of_ble_eq_true rfl) hd) (Nat.le_of_ble_eq_true rfl) (Nat.le_of_ble_eq_true rfl) (Nat.le_of_ble_eq_true rfl) (fun x hx => absurd hx List.not_mem_nil) (q_nmL0 _) (q_nmS0 _) rfl (pos' := 24) (st' := []) (lI' := [(490, r19.1), (491, r19.2)]) (lE' := []) rfl rfl rfl rfl ?_
      refine q_blk 1 [] (c' := q_kc (t, r, m, z, N, ext, rx, L) I E 35 [some (.ref 490), some (.ref 457), some (.ref x2), some (.int x3), none] [] [(490, r19.1), (491, r19.2)] []) ok_X8_obey rfl q_cn ?_
      cases hf
      exact q_krv ok_X8_obey rfl rfl (Nat.le_of_ble_eq_true rfl) (Nat.le_of_ble_eq_true rfl) ⟨rfl, q_hpe (q_fin [490, 491] rfl) (q_fin [] rfl)⟩
    | 8, ht9 =>
      have hx9 : (q_sw j1) = 13 := hx9
      cases ht9
      have hf := q_in (fun hz9 => absurd (hx9.symm.trans hz9) (by decide)) hf
      have hf := q_in (fun hz9 => absurd (hx9.symm.trans hz9) (by decide)) hf
      have hf := q_in (fun hz9 => absurd (hx9.symm.trans hz9) (by decide)) hf
      have hf := q_in (fun hz9 => absurd (hx9.symm.trans hz9) (by decide)) hf
      have hf := q_in (fun hz9 => absurd (hx9.symm.trans hz9) (by decide)) hf
      have hf := q_in (fun hz9 => absurd (hx9.symm.trans hz9) (by decide)) hf
      have hf := q_in (fun hz9 => absurd (hx9.symm.trans hz9) (by decide)) hf
      have hf := q_in (fun hz9 => absurd (hx9.symm.trans hz9) (by decide)) hf
      have hf := q_ip hx9 hf
      refine q_blk 4 [] (c' := q_kc (t, r, m, z, N, ext, rx, L) I E 22 [some (.ref 490), some (.ref 457), some (.ref x2), some (.int x3), none] [.int x3, .ref x2, .ref 457, .ref 490] [] []) ok_X8_obey rfl q_cn ?_
      obtain ⟨r20, hr20, hf⟩ := q_bd hf
      refine q_kS (M2 := m_X8_value) (As := [.ref 457, .ref x2, .int x3]) (v2 := some (.int r20)) ok_X8_obey ok_X8_value cs_X8_value (ct_X8_value_457 (d := 2) (Nat.le_refl _) hr20) rfl rfl (Or.inl rfl) (Nat.le_trans (Nat.le_of_ble_eq_true rfl) hd) (Nat.le_of_ble_eq_true rfl) (Nat.le_of_ble_eq_true rfl) (Nat.le_of_ble_eq_true rfl) (fun x hx => absurd hx List.not_mem_nil) (q_nmL0 _) (q_nmS0 _) rfl (pos' := 23) (st' := [.int r20, .ref 490]) (lI' := []) (lE' := []) rfl rfl rfl rfl ?_
      obtain ⟨r21, hr21, hf⟩ := q_bd hf
      refine q_kV (M2 := m_X8_push) (As := [.int r20]) (b := 490) (v2 := none) ok_X8_obey ok_X8_push cv_X8_push (ct_X8_push_490 (d := 1) (Nat.le_refl _) hr21) rfl rfl (Or.inl rfl) rfl rfl rfl rfl (Nat.le_trans (Nat.le_of_ble_eq_true rfl) hd) (Nat.le_of_ble_eq_true rfl) (Nat.le_of_ble_eq_true rfl) (Nat.le_of_ble_eq_true rfl) (fun x hx => absurd hx List.not_mem_nil) (q_nmL0 _) (q_nmS0 _) rfl (pos' := 24) (st' := []) (lI' := [(490, r21.1), (491, r21.2)]) (lE' := []) rfl rfl rfl rfl ?_
      refine q_blk 1 [] (c' := q_kc (t, r, m, z, N, ext, rx, L) I E 35 [some (.ref 490), some (.ref 457), some (.ref x2), some (.int x3), none] [] [(490, r21.1), (491, r21.2)] []) ok_X8_obey rfl q_cn ?_
      cases hf
      exact q_krv ok_X8_obey rfl rfl (Nat.le_of_ble_eq_true rfl) (Nat.le_of_ble_eq_true rfl) ⟨rfl, q_hpe (q_fin [490, 491] rfl) (q_fin [] rfl)⟩
    | 9, ht9 =>
      have hx9 : (q_sw j1) = 14 := hx9
      cases ht9
      have hf := q_in (fun hz9 => absurd (hx9.symm.trans hz9) (by decide)) hf
      have hf := q_in (fun hz9 => absurd (hx9.symm.trans hz9) (by decide)) hf
      have hf := q_in (fun hz9 => absurd (hx9.symm.trans hz9) (by decide)) hf
      have hf := q_in (fun hz9 => absurd (hx9.symm.trans hz9) (by decide)) hf
      have hf := q_in (fun hz9 => absurd (hx9.symm.trans hz9) (by decide)) hf
      have hf := q_in (fun hz9 => absurd (hx9.symm.trans hz9) (by decide)) hf
      have hf := q_in (fun hz9 => absurd (hx9.symm.trans hz9) (by decide)) hf
      have hf := q_in (fun hz9 => absurd (hx9.symm.trans hz9) (by decide)) hf
      have hf := q_in (fun hz9 => absurd (hx9.symm.trans hz9) (by decide)) hf
      have hf := q_ip hx9 hf
      refine q_blk 4 [] (c' := q_kc (t, r, m, z, N, ext, rx, L) I E 22 [some (.ref 490), some (.ref 457), some (.ref x2), some (.int x3), none] [.int x3, .ref x2, .ref 457, .ref 490] [] []) ok_X8_obey rfl q_cn ?_
      obtain ⟨r22, hr22, hf⟩ := q_bd hf
      refine q_kS (M2 := m_X8_value) (As := [.ref 457, .ref x2, .int x3]) (v2 := some (.int r22)) ok_X8_obey ok_X8_value cs_X8_value (ct_X8_value_457 (d := 2) (Nat.le_refl _) hr22) rfl rfl (Or.inl rfl) (Nat.le_trans (Nat.le_of_ble_eq_true rfl) hd) (Nat.le_of_ble_eq_true rfl) (Nat.le_of_ble_eq_true rfl) (Nat.le_of_ble_eq_true rfl) (fun x hx => absurd hx List.not_mem_nil) (q_nmL0 _) (q_nmS0 _) rfl (pos' := 23) (st' := [.int r22, .ref 490]) (lI' := []) (lE' := []) rfl rfl rfl rfl ?_
      obtain ⟨r23, hr23, hf⟩ := q_bd hf
      refine q_kV (M2 := m_X8_push) (As := [.int r22]) (b := 490) (v2 := none) ok_X8_obey ok_X8_push cv_X8_push (ct_X8_push_490 (d := 1) (Nat.le_refl _) hr23) rfl rfl (Or.inl rfl) rfl rfl rfl rfl (Nat.le_trans (Nat.le_of_ble_eq_true rfl) hd) (Nat.le_of_ble_eq_true rfl) (Nat.le_of_ble_eq_true rfl) (Nat.le_of_ble_eq_true rfl) (fun x hx => absurd hx List.not_mem_nil) (q_nmL0 _) (q_nmS0 _) rfl (pos' := 24) (st' := []) (lI' := [(490, r23.1), (491, r23.2)]) (lE' := []) rfl rfl rfl rfl ?_
      refine q_blk 1 [] (c' := q_kc (t, r, m, z, N, ext, rx, L) I E 35 [some (.ref 490), some (.ref 457), some (.ref x2), some (.int x3), none] [] [(490, r23.1), (491, r23.2)] []) ok_X8_obey rfl q_cn ?_
      cases hf
      exact q_krv ok_X8_obey rfl rfl (Nat.le_of_ble_eq_true rfl) (Nat.le_of_ble_eq_true rfl) ⟨rfl, q_hpe (q_fin [490, 491] rfl) (q_fin [] rfl)⟩
    | 10, ht9 =>
      have hx9 : (q_sw j1) = 15 := hx9
      cases ht9
      have hf := q_in (fun hz9 => absurd (hx9.symm.trans hz9) (by decide)) hf
      have hf := q_in (fun hz9 => absurd (hx9.symm.trans hz9) (by decide)) hf
      have hf := q_in (fun hz9 => absurd (hx9.symm.trans hz9) (by decide)) hf
      have hf := q_in (fun hz9 => absurd (hx9.symm.trans hz9) (by decide)) hf
      have hf := q_in (fun hz9 => absurd (hx9.symm.trans hz9) (by decide)) hf
      have hf := q_in (fun hz9 => absurd (hx9.symm.trans hz9) (by decide)) hf
      have hf := q_in (fun hz9 => absurd (hx9.symm.trans hz9) (by decide)) hf
      have hf := q_in (fun hz9 => absurd (hx9.symm.trans hz9) (by decide)) hf
      have hf := q_in (fun hz9 => absurd (hx9.symm.trans hz9) (by decide)) hf
      have hf := q_in (fun hz9 => absurd (hx9.symm.trans hz9) (by decide)) hf
      have hf := q_ip hx9 hf
      refine q_blk 4 [] (c' := q_kc (t, r, m, z, N, ext, rx, L) I E 22 [some (.ref 490), some (.ref 457), some (.ref x2), some (.int x3), none] [.int x3, .ref x2, .ref 457, .ref 490] [] []) ok_X8_obey rfl q_cn ?_
      obtain ⟨r24, hr24, hf⟩ := q_bd hf
      refine q_kS (M2 := m_X8_value) (As := [.ref 457, .ref x2, .int x3]) (v2 := some (.int r24)) ok_X8_obey ok_X8_value cs_X8_value (ct_X8_value_457 (d := 2) (Nat.le_refl _) hr24) rfl rfl (Or.inl rfl) (Nat.le_trans (Nat.le_of_ble_eq_true rfl) hd) (Nat.le_of_ble_eq_true rfl) (Nat.le_of_ble_eq_true rfl) (Nat.le_of_ble_eq_true rfl) (fun x hx => absurd hx List.not_mem_nil) (q_nmL0 _) (q_nmS0 _) rfl (pos' := 23) (st' := [.int r24, .ref 490]) (lI' := []) (lE' := []) rfl rfl rfl rfl ?_
      obtain ⟨r25, hr25, hf⟩ := q_bd hf
      refine q_kV (M2 := m_X8_push) (As := [.int r24]) (b := 490) (v2 := none) ok_X8_obey ok_X8_push cv_X8_push (ct_X8_push_490 (d := 1) (Nat.le_refl _) hr25) rfl rfl (Or.inl rfl) rfl rfl rfl rfl (Nat.le_trans (Nat.le_of_ble_eq_true rfl) hd) (Nat.le_of_ble_eq_true rfl) (Nat.le_of_ble_eq_true rfl) (Nat.le_of_ble_eq_true rfl) (fun x hx => absurd hx List.not_mem_nil) (q_nmL0 _) (q_nmS0 _) rfl (pos' := 24) (st' := []) (lI' := [(490, r25.1), (491, r25.2)]) (lE' := []) rfl rfl rfl rfl ?_
      refine q_blk 1 [] (c' := q_kc (t, r, m, z, N, ext, rx, L) I E 35 [some (.ref 490), some (.ref 457), some (.ref x2), some (.int x3), none] [] [(490, r25.1), (491, r25.2)] []) ok_X8_obey rfl q_cn ?_
      cases hf
      exact q_krv ok_X8_obey rfl rfl (Nat.le_of_ble_eq_true rfl) (Nat.le_of_ble_eq_true rfl) ⟨rfl, q_hpe (q_fin [490, 491] rfl) (q_fin [] rfl)⟩
    | 11, ht9 =>
      have hx9 : (q_sw j1) = 16 := hx9
      cases ht9
      have hf := q_in (fun hz9 => absurd (hx9.symm.trans hz9) (by decide)) hf
      have hf := q_in (fun hz9 => absurd (hx9.symm.trans hz9) (by decide)) hf
      have hf := q_in (fun hz9 => absurd (hx9.symm.trans hz9) (by decide)) hf
      have hf := q_in (fun hz9 => absurd (hx9.symm.trans hz9) (by decide)) hf
      have hf := q_in (fun hz9 => absurd (hx9.symm.trans hz9) (by decide)) hf
      have hf := q_in (fun hz9 => absurd (hx9.symm.trans hz9) (by decide)) hf
      have hf := q_in (fun hz9 => absurd (hx9.symm.trans hz9) (by decide)) hf
      have hf := q_in (fun hz9 => absurd (hx9.symm.trans hz9) (by decide)) hf
      have hf := q_in (fun hz9 => absurd (hx9.symm.trans hz9) (by decide)) hf
      have hf := q_in (fun hz9 => absurd (hx9.symm.trans hz9) (by decide)) hf
      have hf := q_in (fun hz9 => absurd (hx9.symm.trans hz9) (by decide)) hf
      have hf := q_ip hx9 hf
      refine q_blk 4 [] (c' := q_kc (t, r, m, z, N, ext, rx, L) I E 22 [some (.ref 490), some (.ref 457), some (.ref x2), some (.int x3), none] [.int x3, .ref x2, .ref 457, .ref 490] [] []) ok_X8_obey rfl q_cn ?_
      obtain ⟨r26, hr26, hf⟩ := q_bd hf
      refine q_kS (M2 := m_X8_value) (As := [.ref 457, .ref x2, .int x3]) (v2 := some (.int r26)) ok_X8_obey ok_X8_value cs_X8_value (ct_X8_value_457 (d := 2) (Nat.le_refl _) hr26) rfl rfl (Or.inl rfl) (Nat.le_trans (Nat.le_of_ble_eq_true rfl) hd) (Nat.le_of_ble_eq_true rfl) (Nat.le_of_ble_eq_true rfl) (Nat.le_of_ble_eq_true rfl) (fun x hx => absurd hx List.not_mem_nil) (q_nmL0 _) (q_nmS0 _) rfl (pos' := 23) (st' := [.int r26, .ref 490]) (lI' := []) (lE' := []) rfl rfl rfl rfl ?_
      obtain ⟨r27, hr27, hf⟩ := q_bd hf
      refine q_kV (M2 := m_X8_push) (As := [.int r26]) (b := 490) (v2 := none) ok_X8_obey ok_X8_push cv_X8_push (ct_X8_push_490 (d := 1) (Nat.le_refl _) hr27) rfl rfl (Or.inl rfl) rfl rfl rfl rfl (Nat.le_trans (Nat.le_of_ble_eq_true rfl) hd) (Nat.le_of_ble_eq_true rfl) (Nat.le_of_ble_eq_true rfl) (Nat.le_of_ble_eq_true rfl) (fun x hx => absurd hx List.not_mem_nil) (q_nmL0 _) (q_nmS0 _) rfl (pos' := 24) (st' := []) (lI' := [(490, r27.1), (491, r27.2)]) (lE' := []) rfl rfl rfl rfl ?_
      refine q_blk 1 [] (c' := q_kc (t, r, m, z, N, ext, rx, L) I E 35 [some (.ref 490), some (.ref 457), some (.ref x2), some (.int x3), none] [] [(490, r27.1), (491, r27.2)] []) ok_X8_obey rfl q_cn ?_
      cases hf
      exact q_krv ok_X8_obey rfl rfl (Nat.le_of_ble_eq_true rfl) (Nat.le_of_ble_eq_true rfl) ⟨rfl, q_hpe (q_fin [490, 491] rfl) (q_fin [] rfl)⟩
    | 12, ht9 =>
      have hx9 : (q_sw j1) = 17 := hx9
      cases ht9
      have hf := q_in (fun hz9 => absurd (hx9.symm.trans hz9) (by decide)) hf
      have hf := q_in (fun hz9 => absurd (hx9.symm.trans hz9) (by decide)) hf
      have hf := q_in (fun hz9 => absurd (hx9.symm.trans hz9) (by decide)) hf
      have hf := q_in (fun hz9 => absurd (hx9.symm.trans hz9) (by decide)) hf
      have hf := q_in (fun hz9 => absurd (hx9.symm.trans hz9) (by decide)) hf
      have hf := q_in (fun hz9 => absurd (hx9.symm.trans hz9) (by decide)) hf
      have hf := q_in (fun hz9 => absurd (hx9.symm.trans hz9) (by decide)) hf
      have hf := q_in (fun hz9 => absurd (hx9.symm.trans hz9) (by decide)) hf
      have hf := q_in (fun hz9 => absurd (hx9.symm.trans hz9) (by decide)) hf
      have hf := q_in (fun hz9 => absurd (hx9.symm.trans hz9) (by decide)) hf
      have hf := q_in (fun hz9 => absurd (hx9.symm.trans hz9) (by decide)) hf
      have hf := q_in (fun hz9 => absurd (hx9.symm.trans hz9) (by decide)) hf
      have hf := q_ip hx9 hf
      refine q_blk 1 [] (c' := q_kc (t, r, m, z, N, ext, rx, L) I E 26 [some (.ref 490), some (.ref 457), some (.ref x2), some (.int x3), none] [.ref 490] [] []) ok_X8_obey rfl q_cn ?_
      obtain ⟨r28, hr28, hf⟩ := q_bd hf
      refine q_kV (M2 := m_X8_pop) (As := []) (b := 490) (v2 := some (.int r28.1)) ok_X8_obey ok_X8_pop cv_X8_pop (ct_X8_pop_490 (d := 1) (Nat.le_refl _) hr28) rfl rfl (Or.inl rfl) rfl rfl rfl rfl (Nat.le_trans (Nat.le_of_ble_eq_true rfl) hd) (Nat.le_of_ble_eq_true rfl) (Nat.le_of_ble_eq_true rfl) (Nat.le_of_ble_eq_true rfl) (fun x hx => absurd hx List.not_mem_nil) (q_nmL0 _) (q_nmS0 _) rfl (pos' := 27) (st' := [.int r28.1]) (lI' := [(490, r28.2)]) (lE' := []) rfl rfl rfl rfl ?_
      refine q_blk 4 [] (c' := q_kc (t, r, m, z, N, ext, rx, L) I E 31 [some (.ref 490), some (.ref 457), some (.ref x2), some (.int x3), some (.int r28.1)] [.ref 490, .ref x2, .ref 490] [(490, r28.2)] []) ok_X8_obey rfl q_cn ?_
      obtain ⟨r29, hr29, hf⟩ := q_bd hf
      refine q_kV (M2 := m_X8_pop) (As := []) (b := 490) (v2 := some (.int r29.1)) ok_X8_obey ok_X8_pop cv_X8_pop (ct_X8_pop_490 (d := 1) (Nat.le_refl _) hr29) rfl rfl (Or.inl rfl) rfl rfl rfl rfl (Nat.le_trans (Nat.le_of_ble_eq_true rfl) hd) (Nat.le_of_ble_eq_true rfl) (Nat.le_of_ble_eq_true rfl) (Nat.le_of_ble_eq_true rfl) (fun x hx => absurd hx List.not_mem_nil) (q_nmL0 _) (q_nmS0 _) rfl (pos' := 32) (st' := [.int r29.1, .ref x2, .ref 490]) (lI' := [(490, r29.2)]) (lE' := []) rfl rfl rfl rfl ?_
      refine q_blk 1 [] (c' := q_kc (t, r, m, z, N, ext, rx, L) I E 33 [some (.ref 490), some (.ref 457), some (.ref x2), some (.int x3), some (.int r28.1)] [.int r28.1, .int r29.1, .ref x2, .ref 490] [(490, r29.2)] []) ok_X8_obey rfl q_cn ?_
      obtain ⟨r30, hr30, hf⟩ := q_bd hf
      refine q_kS (M2 := m_X8_joined) (As := [.ref x2, .int r29.1, .int r28.1]) (v2 := some (.int r30)) ok_X8_obey ok_X8_joined cs_X8_joined (ct_X8_joined (d := 2) (Nat.le_refl _) hr30) rfl rfl (Or.inl rfl) (Nat.le_trans (Nat.le_of_ble_eq_true rfl) hd) (Nat.le_of_ble_eq_true rfl) (Nat.le_of_ble_eq_true rfl) (Nat.le_of_ble_eq_true rfl) (fun x hx => absurd hx List.not_mem_nil) (q_nmL0 _) (q_nmS0 _) rfl (pos' := 34) (st' := [.int r30, .ref 490]) (lI' := [(490, r29.2)]) (lE' := []) rfl rfl rfl rfl ?_
      obtain ⟨r31, hr31, hf⟩ := q_bd hf
      refine q_kV (M2 := m_X8_push) (As := [.int r30]) (b := 490) (v2 := none) ok_X8_obey ok_X8_push cv_X8_push (ct_X8_push_490 (d := 1) (Nat.le_refl _) hr31) rfl rfl (Or.inl rfl) rfl rfl rfl rfl (Nat.le_trans (Nat.le_of_ble_eq_true rfl) hd) (Nat.le_of_ble_eq_true rfl) (Nat.le_of_ble_eq_true rfl) (Nat.le_of_ble_eq_true rfl) (fun x hx => absurd hx List.not_mem_nil) (q_nmL0 _) (q_nmS0 _) rfl (pos' := 35) (st' := []) (lI' := [(490, r31.1), (491, r31.2)]) (lE' := []) rfl rfl rfl rfl ?_
      cases hf
      exact q_krv ok_X8_obey rfl rfl (Nat.le_of_ble_eq_true rfl) (Nat.le_of_ble_eq_true rfl) ⟨rfl, q_hpe (q_fin [490, 491] rfl) (q_fin [] rfl)⟩
    | 13, ht9 =>
      have hx9 : (q_sw j1) = 18 := hx9
      cases ht9
      have hf := q_in (fun hz9 => absurd (hx9.symm.trans hz9) (by decide)) hf
      have hf := q_in (fun hz9 => absurd (hx9.symm.trans hz9) (by decide)) hf
      have hf := q_in (fun hz9 => absurd (hx9.symm.trans hz9) (by decide)) hf
      have hf := q_in (fun hz9 => absurd (hx9.symm.trans hz9) (by decide)) hf
      have hf := q_in (fun hz9 => absurd (hx9.symm.trans hz9) (by decide)) hf
      have hf := q_in (fun hz9 => absurd (hx9.symm.trans hz9) (by decide)) hf
      have hf := q_in (fun hz9 => absurd (hx9.symm.trans hz9) (by decide)) hf
      have hf := q_in (fun hz9 => absurd (hx9.symm.trans hz9) (by decide)) hf
      have hf := q_in (fun hz9 => absurd (hx9.symm.trans hz9) (by decide)) hf
      have hf := q_in (fun hz9 => absurd (hx9.symm.trans hz9) (by decide)) hf
      have hf := q_in (fun hz9 => absurd (hx9.symm.trans hz9) (by decide)) hf
      have hf := q_in (fun hz9 => absurd (hx9.symm.trans hz9) (by decide)) hf
      have hf := q_in (fun hz9 => absurd (hx9.symm.trans hz9) (by decide)) hf
      have hf := q_ip hx9 hf
      refine q_blk 1 [] (c' := q_kc (t, r, m, z, N, ext, rx, L) I E 26 [some (.ref 490), some (.ref 457), some (.ref x2), some (.int x3), none] [.ref 490] [] []) ok_X8_obey rfl q_cn ?_
      obtain ⟨r32, hr32, hf⟩ := q_bd hf
      refine q_kV (M2 := m_X8_pop) (As := []) (b := 490) (v2 := some (.int r32.1)) ok_X8_obey ok_X8_pop cv_X8_pop (ct_X8_pop_490 (d := 1) (Nat.le_refl _) hr32) rfl rfl (Or.inl rfl) rfl rfl rfl rfl (Nat.le_trans (Nat.le_of_ble_eq_true rfl) hd) (Nat.le_of_ble_eq_true rfl) (Nat.le_of_ble_eq_true rfl) (Nat.le_of_ble_eq_true rfl) (fun x hx => absurd hx List.not_mem_nil) (q_nmL0 _) (q_nmS0 _) rfl (pos' := 27) (st' := [.int r32.1]) (lI' := [(490, r32.2)]) (lE' := []) rfl rfl rfl rfl ?_
      refine q_blk 4 [] (c' := q_kc (t, r, m, z, N, ext, rx, L) I E 31 [some (.ref 490), some (.ref 457), some (.ref x2), some (.int x3), some (.int r32.1)] [.ref 490, .ref x2, .ref 490] [(490, r32.2)] []) ok_X8_obey rfl q_cn ?_
      obtain ⟨r33, hr33, hf⟩ := q_bd hf
      refine q_kV (M2 := m_X8_pop) (As := []) (b := 490) (v2 := some (.int r33.1)) ok_X8_obey ok_X8_pop cv_X8_pop (ct_X8_pop_490 (d := 1) (Nat.le_refl _) hr33) rfl rfl (Or.inl rfl) rfl rfl rfl rfl (Nat.le_trans (Nat.le_of_ble_eq_true rfl) hd) (Nat.le_of_ble_eq_true rfl) (Nat.le_of_ble_eq_true rfl) (Nat.le_of_ble_eq_true rfl) (fun x hx => absurd hx List.not_mem_nil) (q_nmL0 _) (q_nmS0 _) rfl (pos' := 32) (st' := [.int r33.1, .ref x2, .ref 490]) (lI' := [(490, r33.2)]) (lE' := []) rfl rfl rfl rfl ?_
      refine q_blk 1 [] (c' := q_kc (t, r, m, z, N, ext, rx, L) I E 33 [some (.ref 490), some (.ref 457), some (.ref x2), some (.int x3), some (.int r32.1)] [.int r32.1, .int r33.1, .ref x2, .ref 490] [(490, r33.2)] []) ok_X8_obey rfl q_cn ?_
      obtain ⟨r34, hr34, hf⟩ := q_bd hf
      refine q_kS (M2 := m_X8_joined) (As := [.ref x2, .int r33.1, .int r32.1]) (v2 := some (.int r34)) ok_X8_obey ok_X8_joined cs_X8_joined (ct_X8_joined (d := 2) (Nat.le_refl _) hr34) rfl rfl (Or.inl rfl) (Nat.le_trans (Nat.le_of_ble_eq_true rfl) hd) (Nat.le_of_ble_eq_true rfl) (Nat.le_of_ble_eq_true rfl) (Nat.le_of_ble_eq_true rfl) (fun x hx => absurd hx List.not_mem_nil) (q_nmL0 _) (q_nmS0 _) rfl (pos' := 34) (st' := [.int r34, .ref 490]) (lI' := [(490, r33.2)]) (lE' := []) rfl rfl rfl rfl ?_
      obtain ⟨r35, hr35, hf⟩ := q_bd hf
      refine q_kV (M2 := m_X8_push) (As := [.int r34]) (b := 490) (v2 := none) ok_X8_obey ok_X8_push cv_X8_push (ct_X8_push_490 (d := 1) (Nat.le_refl _) hr35) rfl rfl (Or.inl rfl) rfl rfl rfl rfl (Nat.le_trans (Nat.le_of_ble_eq_true rfl) hd) (Nat.le_of_ble_eq_true rfl) (Nat.le_of_ble_eq_true rfl) (Nat.le_of_ble_eq_true rfl) (fun x hx => absurd hx List.not_mem_nil) (q_nmL0 _) (q_nmS0 _) rfl (pos' := 35) (st' := []) (lI' := [(490, r35.1), (491, r35.2)]) (lE' := []) rfl rfl rfl rfl ?_
      cases hf
      exact q_krv ok_X8_obey rfl rfl (Nat.le_of_ble_eq_true rfl) (Nat.le_of_ble_eq_true rfl) ⟨rfl, q_hpe (q_fin [490, 491] rfl) (q_fin [] rfl)⟩
    | 14, ht9 =>
      have hx9 : (q_sw j1) = 19 := hx9
      cases ht9
      have hf := q_in (fun hz9 => absurd (hx9.symm.trans hz9) (by decide)) hf
      have hf := q_in (fun hz9 => absurd (hx9.symm.trans hz9) (by decide)) hf
      have hf := q_in (fun hz9 => absurd (hx9.symm.trans hz9) (by decide)) hf
      have hf := q_in (fun hz9 => absurd (hx9.symm.trans hz9) (by decide)) hf
      have hf := q_in (fun hz9 => absurd (hx9.symm.trans hz9) (by decide)) hf
      have hf := q_in (fun hz9 => absurd (hx9.symm.trans hz9) (by decide)) hf
      have hf := q_in (fun hz9 => absurd (hx9.symm.trans hz9) (by decide)) hf
      have hf := q_in (fun hz9 => absurd (hx9.symm.trans hz9) (by decide)) hf
      have hf := q_in (fun hz9 => absurd (hx9.symm.trans hz9) (by decide)) hf
      have hf := q_in (fun hz9 => absurd (hx9.symm.trans hz9) (by decide)) hf
      have hf := q_in (fun hz9 => absurd (hx9.symm.trans hz9) (by decide)) hf
      have hf := q_in (fun hz9 => absurd (hx9.symm.trans hz9) (by decide)) hf
      have hf := q_in (fun hz9 => absurd (hx9.symm.trans hz9) (by decide)) hf
      have hf := q_in (fun hz9 => absurd (hx9.symm.trans hz9) (by decide)) hf
      have hf := q_ip hx9 hf
      refine q_blk 1 [] (c' := q_kc (t, r, m, z, N, ext, rx, L) I E 26 [some (.ref 490), some (.ref 457), some (.ref x2), some (.int x3), none] [.ref 490] [] []) ok_X8_obey rfl q_cn ?_
      obtain ⟨r36, hr36, hf⟩ := q_bd hf
      refine q_kV (M2 := m_X8_pop) (As := []) (b := 490) (v2 := some (.int r36.1)) ok_X8_obey ok_X8_pop cv_X8_pop (ct_X8_pop_490 (d := 1) (Nat.le_refl _) hr36) rfl rfl (Or.inl rfl) rfl rfl rfl rfl (Nat.le_trans (Nat.le_of_ble_eq_true rfl) hd) (Nat.le_of_ble_eq_true rfl) (Nat.le_of_ble_eq_true rfl) (Nat.le_of_ble_eq_true rfl) (fun x hx => absurd hx List.not_mem_nil) (q_nmL0 _) (q_nmS0 _) rfl (pos' := 27) (st' := [.int r36.1]) (lI' := [(490, r36.2)]) (lE' := []) rfl rfl rfl rfl ?_
      refine q_blk 4 [] (c' := q_kc (t, r, m, z, N, ext, rx, L) I E 31 [some (.ref 490), some (.ref 457), some (.ref x2), some (.int x3), some (.int r36.1)] [.ref 490, .ref x2, .ref 490] [(490, r36.2)] []) ok_X8_obey rfl q_cn ?_
      obtain ⟨r37, hr37, hf⟩ := q_bd hf
      refine q_kV (M2 := m_X8_pop) (As := []) (b := 490) (v2 := some (.int r37.1)) ok_X8_obey ok_X8_pop cv_X8_pop (ct_X8_pop_490 (d := 1) (Nat.le_refl _) hr37) rfl rfl (Or.inl rfl) rfl rfl rfl rfl (Nat.le_trans (Nat.le_of_ble_eq_true rfl) hd) (Nat.le_of_ble_eq_true rfl) (Nat.le_of_ble_eq_true rfl) (Nat.le_of_ble_eq_true rfl) (fun x hx => absurd hx List.not_mem_nil) (q_nmL0 _) (q_nmS0 _) rfl (pos' := 32) (st' := [.int r37.1, .ref x2, .ref 490]) (lI' := [(490, r37.2)]) (lE' := []) rfl rfl rfl rfl ?_
      refine q_blk 1 [] (c' := q_kc (t, r, m, z, N, ext, rx, L) I E 33 [some (.ref 490), some (.ref 457), some (.ref x2), some (.int x3), some (.int r36.1)] [.int r36.1, .int r37.1, .ref x2, .ref 490] [(490, r37.2)] []) ok_X8_obey rfl q_cn ?_
      obtain ⟨r38, hr38, hf⟩ := q_bd hf
      refine q_kS (M2 := m_X8_joined) (As := [.ref x2, .int r37.1, .int r36.1]) (v2 := some (.int r38)) ok_X8_obey ok_X8_joined cs_X8_joined (ct_X8_joined (d := 2) (Nat.le_refl _) hr38) rfl rfl (Or.inl rfl) (Nat.le_trans (Nat.le_of_ble_eq_true rfl) hd) (Nat.le_of_ble_eq_true rfl) (Nat.le_of_ble_eq_true rfl) (Nat.le_of_ble_eq_true rfl) (fun x hx => absurd hx List.not_mem_nil) (q_nmL0 _) (q_nmS0 _) rfl (pos' := 34) (st' := [.int r38, .ref 490]) (lI' := [(490, r37.2)]) (lE' := []) rfl rfl rfl rfl ?_
      obtain ⟨r39, hr39, hf⟩ := q_bd hf
      refine q_kV (M2 := m_X8_push) (As := [.int r38]) (b := 490) (v2 := none) ok_X8_obey ok_X8_push cv_X8_push (ct_X8_push_490 (d := 1) (Nat.le_refl _) hr39) rfl rfl (Or.inl rfl) rfl rfl rfl rfl (Nat.le_trans (Nat.le_of_ble_eq_true rfl) hd) (Nat.le_of_ble_eq_true rfl) (Nat.le_of_ble_eq_true rfl) (Nat.le_of_ble_eq_true rfl) (fun x hx => absurd hx List.not_mem_nil) (q_nmL0 _) (q_nmS0 _) rfl (pos' := 35) (st' := []) (lI' := [(490, r39.1), (491, r39.2)]) (lE' := []) rfl rfl rfl rfl ?_
      cases hf
      exact q_krv ok_X8_obey rfl rfl (Nat.le_of_ble_eq_true rfl) (Nat.le_of_ble_eq_true rfl) ⟨rfl, q_hpe (q_fin [490, 491] rfl) (q_fin [] rfl)⟩
    | 15, ht9 =>
      have hx9 : (q_sw j1) = 20 := hx9
      cases ht9
      have hf := q_in (fun hz9 => absurd (hx9.symm.trans hz9) (by decide)) hf
      have hf := q_in (fun hz9 => absurd (hx9.symm.trans hz9) (by decide)) hf
      have hf := q_in (fun hz9 => absurd (hx9.symm.trans hz9) (by decide)) hf
      have hf := q_in (fun hz9 => absurd (hx9.symm.trans hz9) (by decide)) hf
      have hf := q_in (fun hz9 => absurd (hx9.symm.trans hz9) (by decide)) hf
      have hf := q_in (fun hz9 => absurd (hx9.symm.trans hz9) (by decide)) hf
      have hf := q_in (fun hz9 => absurd (hx9.symm.trans hz9) (by decide)) hf
      have hf := q_in (fun hz9 => absurd (hx9.symm.trans hz9) (by decide)) hf
      have hf := q_in (fun hz9 => absurd (hx9.symm.trans hz9) (by decide)) hf
      have hf := q_in (fun hz9 => absurd (hx9.symm.trans hz9) (by decide)) hf
      have hf := q_in (fun hz9 => absurd (hx9.symm.trans hz9) (by decide)) hf
      have hf := q_in (fun hz9 => absurd (hx9.symm.trans hz9) (by decide)) hf
      have hf := q_in (fun hz9 => absurd (hx9.symm.trans hz9) (by decide)) hf
      have hf := q_in (fun hz9 => absurd (hx9.symm.trans hz9) (by decide)) hf
      have hf := q_in (fun hz9 => absurd (hx9.symm.trans hz9) (by decide)) hf
      have hf := q_ip hx9 hf
      refine q_blk 1 [] (c' := q_kc (t, r, m, z, N, ext, rx, L) I E 26 [some (.ref 490), some (.ref 457), some (.ref x2), some (.int x3), none] [.ref 490] [] []) ok_X8_obey rfl q_cn ?_
      obtain ⟨r40, hr40, hf⟩ := q_bd hf
      refine q_kV (M2 := m_X8_pop) (As := []) (b := 490) (v2 := some (.int r40.1)) ok_X8_obey ok_X8_pop cv_X8_pop (ct_X8_pop_490 (d := 1) (Nat.le_refl _) hr40) rfl rfl (Or.inl rfl) rfl rfl rfl rfl (Nat.le_trans (Nat.le_of_ble_eq_true rfl) hd) (Nat.le_of_ble_eq_true rfl) (Nat.le_of_ble_eq_true rfl) (Nat.le_of_ble_eq_true rfl) (fun x hx => absurd hx List.not_mem_nil) (q_nmL0 _) (q_nmS0 _) rfl (pos' := 27) (st' := [.int r40.1]) (lI' := [(490, r40.2)]) (lE' := []) rfl rfl rfl rfl ?_
      refine q_blk 4 [] (c' := q_kc (t, r, m, z, N, ext, rx, L) I E 31 [some (.ref 490), some (.ref 457), some (.ref x2), some (.int x3), some (.int r40.1)] [.ref 490, .ref x2, .ref 490] [(490, r40.2)] []) ok_X8_obey rfl q_cn ?_
      obtain ⟨r41, hr41, hf⟩ := q_bd hf
      refine q_kV (M2 := m_X8_pop) (As := []) (b := 490) (v2 := some (.int r41.1)) ok_X8_obey ok_X8_pop cv_X8_pop (ct_X8_pop_490 (d := 1) (Nat.le_refl _) hr41) rfl rfl (Or.inl rfl) rfl rfl rfl rfl (Nat.le_trans (Nat.le_of_ble_eq_true rfl) hd) (Nat.le_of_ble_eq_true rfl) (Nat.le_of_ble_eq_true rfl) (Nat.le_of_ble_eq_true rfl) (fun x hx => absurd hx List.not_mem_nil) (q_nmL0 _) (q_nmS0 _) rfl (pos' := 32) (st' := [.int r41.1, .ref x2, .ref 490]) (lI' := [(490, r41.2)]) (lE' := []) rfl rfl rfl rfl ?_
      refine q_blk 1 [] (c' := q_kc (t, r, m, z, N, ext, rx, L) I E 33 [some (.ref 490), some (.ref 457), some (.ref x2), some (.int x3), some (.int r40.1)] [.int r40.1, .int r41.1, .ref x2, .ref 490] [(490, r41.2)] []) ok_X8_obey rfl q_cn ?_
      obtain ⟨r42, hr42, hf⟩ := q_bd hf
      refine q_kS (M2 := m_X8_joined) (As := [.ref x2, .int r41.1, .int r40.1]) (v2 := some (.int r42)) ok_X8_obey ok_X8_joined cs_X8_joined (ct_X8_joined (d := 2) (Nat.le_refl _) hr42) rfl rfl (Or.inl rfl) (Nat.le_trans (Nat.le_of_ble_eq_true rfl) hd) (Nat.le_of_ble_eq_true rfl) (Nat.le_of_ble_eq_true rfl) (Nat.le_of_ble_eq_true rfl) (fun x hx => absurd hx List.not_mem_nil) (q_nmL0 _) (q_nmS0 _) rfl (pos' := 34) (st' := [.int r42, .ref 490]) (lI' := [(490, r41.2)]) (lE' := []) rfl rfl rfl rfl ?_
      obtain ⟨r43, hr43, hf⟩ := q_bd hf
      refine q_kV (M2 := m_X8_push) (As := [.int r42]) (b := 490) (v2 := none) ok_X8_obey ok_X8_push cv_X8_push (ct_X8_push_490 (d := 1) (Nat.le_refl _) hr43) rfl rfl (Or.inl rfl) rfl rfl rfl rfl (Nat.le_trans (Nat.le_of_ble_eq_true rfl) hd) (Nat.le_of_ble_eq_true rfl) (Nat.le_of_ble_eq_true rfl) (Nat.le_of_ble_eq_true rfl) (fun x hx => absurd hx List.not_mem_nil) (q_nmL0 _) (q_nmS0 _) rfl (pos' := 35) (st' := []) (lI' := [(490, r43.1), (491, r43.2)]) (lE' := []) rfl rfl rfl rfl ?_
      cases hf
      exact q_krv ok_X8_obey rfl rfl (Nat.le_of_ble_eq_true rfl) (Nat.le_of_ble_eq_true rfl) ⟨rfl, q_hpe (q_fin [490, 491] rfl) (q_fin [] rfl)⟩
    | 16, ht9 =>
      have hx9 : (q_sw j1) = 21 := hx9
      cases ht9
      have hf := q_in (fun hz9 => absurd (hx9.symm.trans hz9) (by decide)) hf
      have hf := q_in (fun hz9 => absurd (hx9.symm.trans hz9) (by decide)) hf
      have hf := q_in (fun hz9 => absurd (hx9.symm.trans hz9) (by decide)) hf
      have hf := q_in (fun hz9 => absurd (hx9.symm.trans hz9) (by decide)) hf
      have hf := q_in (fun hz9 => absurd (hx9.symm.trans hz9) (by decide)) hf
      have hf := q_in (fun hz9 => absurd (hx9.symm.trans hz9) (by decide)) hf
      have hf := q_in (fun hz9 => absurd (hx9.symm.trans hz9) (by decide)) hf
      have hf := q_in (fun hz9 => absurd (hx9.symm.trans hz9) (by decide)) hf
      have hf := q_in (fun hz9 => absurd (hx9.symm.trans hz9) (by decide)) hf
      have hf := q_in (fun hz9 => absurd (hx9.symm.trans hz9) (by decide)) hf
      have hf := q_in (fun hz9 => absurd (hx9.symm.trans hz9) (by decide)) hf
      have hf := q_in (fun hz9 => absurd (hx9.symm.trans hz9) (by decide)) hf
      have hf := q_in (fun hz9 => absurd (hx9.symm.trans hz9) (by decide)) hf
      have hf := q_in (fun hz9 => absurd (hx9.symm.trans hz9) (by decide)) hf
      have hf := q_in (fun hz9 => absurd (hx9.symm.trans hz9) (by decide)) hf
      have hf := q_in (fun hz9 => absurd (hx9.symm.trans hz9) (by decide)) hf
      have hf := q_ip hx9 hf
      refine q_blk 2 [] (c' := q_kc (t, r, m, z, N, ext, rx, L) I E 7 [some (.ref 490), some (.ref 457), some (.ref x2), some (.int x3), none] [.ref 490, .ref 490] [] []) ok_X8_obey rfl q_cn ?_
      obtain ⟨r44, hr44, hf⟩ := q_bd hf
      refine q_kV (M2 := m_X8_pop) (As := []) (b := 490) (v2 := some (.int r44.1)) ok_X8_obey ok_X8_pop cv_X8_pop (ct_X8_pop_490 (d := 1) (Nat.le_refl _) hr44) rfl rfl (Or.inl rfl) rfl rfl rfl rfl (Nat.le_trans (Nat.le_of_ble_eq_true rfl) hd) (Nat.le_of_ble_eq_true rfl) (Nat.le_of_ble_eq_true rfl) (Nat.le_of_ble_eq_true rfl) (fun x hx => absurd hx List.not_mem_nil) (q_nmL0 _) (q_nmS0 _) rfl (pos' := 8) (st' := [.int r44.1, .ref 490]) (lI' := [(490, r44.2)]) (lE' := []) rfl rfl rfl rfl ?_
      refine q_blk 1 [] (c' := q_kc (t, r, m, z, N, ext, rx, L) I E 9 [some (.ref 490), some (.ref 457), some (.ref x2), some (.int x3), none] [.int (-r44.1), .ref 490] [(490, r44.2)] []) ok_X8_obey rfl q_cn ?_
      obtain ⟨r45, hr45, hf⟩ := q_bd hf
      refine q_kV (M2 := m_X8_push) (As := [.int (-r44.1)]) (b := 490) (v2 := none) ok_X8_obey ok_X8_push cv_X8_push (ct_X8_push_490 (d := 1) (Nat.le_refl _) hr45) rfl rfl (Or.inl rfl) rfl rfl rfl rfl (Nat.le_trans (Nat.le_of_ble_eq_true rfl) hd) (Nat.le_of_ble_eq_true rfl) (Nat.le_of_ble_eq_true rfl) (Nat.le_of_ble_eq_true rfl) (fun x hx => absurd hx List.not_mem_nil) (q_nmL0 _) (q_nmS0 _) rfl (pos' := 10) (st' := []) (lI' := [(490, r45.1), (491, r45.2)]) (lE' := []) rfl rfl rfl rfl ?_
      refine q_blk 1 [] (c' := q_kc (t, r, m, z, N, ext, rx, L) I E 35 [some (.ref 490), some (.ref 457), some (.ref x2), some (.int x3), none] [] [(490, r45.1), (491, r45.2)] []) ok_X8_obey rfl q_cn ?_
      cases hf
      exact q_krv ok_X8_obey rfl rfl (Nat.le_of_ble_eq_true rfl) (Nat.le_of_ble_eq_true rfl) ⟨rfl, q_hpe (q_fin [490, 491] rfl) (q_fin [] rfl)⟩
    | z9 + 17, ht9 => cases ht9
  · have hf := q_in (hx9 0 (by decide)) hf
    have hf := q_in (hx9 1 (by decide)) hf
    have hf := q_in (hx9 2 (by decide)) hf
    have hf := q_in (hx9 3 (by decide)) hf
    have hf := q_in (hx9 4 (by decide)) hf
    have hf := q_in (hx9 5 (by decide)) hf
    have hf := q_in (hx9 6 (by decide)) hf
    have hf := q_in (hx9 7 (by decide)) hf
    have hf := q_in (hx9 8 (by decide)) hf
    have hf := q_in (hx9 9 (by decide)) hf
    have hf := q_in (hx9 10 (by decide)) hf
    have hf := q_in (hx9 11 (by decide)) hf
    have hf := q_in (hx9 12 (by decide)) hf
    have hf := q_in (hx9 13 (by decide)) hf
    have hf := q_in (hx9 14 (by decide)) hf
    have hf := q_in (hx9 15 (by decide)) hf
    have hf := q_in (hx9 16 (by decide)) hf
    refine q_blk 1 [] (c' := q_kc (t, r, m, z, N, ext, rx, L) I E 26 [some (.ref 490), some (.ref 457), some (.ref x2), some (.int x3), none] [.ref 490] [] []) ok_X8_obey rfl q_cn ?_
    obtain ⟨r46, hr46, hf⟩ := q_bd hf
    refine q_kV (M2 := m_X8_pop) (As := []) (b := 490) (v2 := some (.int r46.1)) ok_X8_obey ok_X8_pop cv_X8_pop (ct_X8_pop_490 (d := 1) (Nat.le_refl _) hr46) rfl rfl (Or.inl rfl) rfl rfl rfl rfl (Nat.le_trans (Nat.le_of_ble_eq_true rfl) hd) (Nat.le_of_ble_eq_true rfl) (Nat.le_of_ble_eq_true rfl) (Nat.le_of_ble_eq_true rfl) (fun x hx => absurd hx List.not_mem_nil) (q_nmL0 _) (q_nmS0 _) rfl (pos' := 27) (st' := [.int r46.1]) (lI' := [(490, r46.2)]) (lE' := []) rfl rfl rfl rfl ?_
    refine q_blk 4 [] (c' := q_kc (t, r, m, z, N, ext, rx, L) I E 31 [some (.ref 490), some (.ref 457), some (.ref x2), some (.int x3), some (.int r46.1)] [.ref 490, .ref x2, .ref 490] [(490, r46.2)] []) ok_X8_obey rfl q_cn ?_
    obtain ⟨r47, hr47, hf⟩ := q_bd hf
    refine q_kV (M2 := m_X8_pop) (As := []) (b := 490) (v2 := some (.int r47.1)) ok_X8_obey ok_X8_pop cv_X8_pop (ct_X8_pop_490 (d := 1) (Nat.le_refl _) hr47) rfl rfl (Or.inl rfl) rfl rfl rfl rfl (Nat.le_trans (Nat.le_of_ble_eq_true rfl) hd) (Nat.le_of_ble_eq_true rfl) (Nat.le_of_ble_eq_true rfl) (Nat.le_of_ble_eq_true rfl) (fun x hx => absurd hx List.not_mem_nil) (q_nmL0 _) (q_nmS0 _) rfl (pos' := 32) (st' := [.int r47.1, .ref x2, .ref 490]) (lI' := [(490, r47.2)]) (lE' := []) rfl rfl rfl rfl ?_
    refine q_blk 1 [] (c' := q_kc (t, r, m, z, N, ext, rx, L) I E 33 [some (.ref 490), some (.ref 457), some (.ref x2), some (.int x3), some (.int r46.1)] [.int r46.1, .int r47.1, .ref x2, .ref 490] [(490, r47.2)] []) ok_X8_obey rfl q_cn ?_
    obtain ⟨r48, hr48, hf⟩ := q_bd hf
    refine q_kS (M2 := m_X8_joined) (As := [.ref x2, .int r47.1, .int r46.1]) (v2 := some (.int r48)) ok_X8_obey ok_X8_joined cs_X8_joined (ct_X8_joined (d := 2) (Nat.le_refl _) hr48) rfl rfl (Or.inl rfl) (Nat.le_trans (Nat.le_of_ble_eq_true rfl) hd) (Nat.le_of_ble_eq_true rfl) (Nat.le_of_ble_eq_true rfl) (Nat.le_of_ble_eq_true rfl) (fun x hx => absurd hx List.not_mem_nil) (q_nmL0 _) (q_nmS0 _) rfl (pos' := 34) (st' := [.int r48, .ref 490]) (lI' := [(490, r47.2)]) (lE' := []) rfl rfl rfl rfl ?_
    obtain ⟨r49, hr49, hf⟩ := q_bd hf
    refine q_kV (M2 := m_X8_push) (As := [.int r48]) (b := 490) (v2 := none) ok_X8_obey ok_X8_push cv_X8_push (ct_X8_push_490 (d := 1) (Nat.le_refl _) hr49) rfl rfl (Or.inl rfl) rfl rfl rfl rfl (Nat.le_trans (Nat.le_of_ble_eq_true rfl) hd) (Nat.le_of_ble_eq_true rfl) (Nat.le_of_ble_eq_true rfl) (Nat.le_of_ble_eq_true rfl) (fun x hx => absurd hx List.not_mem_nil) (q_nmL0 _) (q_nmS0 _) rfl (pos' := 35) (st' := []) (lI' := [(490, r49.1), (491, r49.2)]) (lE' := []) rfl rfl rfl rfl ?_
    cases hf
    exact q_krv ok_X8_obey rfl rfl (Nat.le_of_ble_eq_true rfl) (Nat.le_of_ble_eq_true rfl) ⟨rfl, q_hpe (q_fin [490, 491] rfl) (q_fin [] rfl)⟩
set_option maxHeartbeats 4000000 in
theorem lp_X8_reckon_L5_490_457 {g : q_G} {d mc ms : Nat} {h0 : q_H} {Q : (Option Value ⊕ String) → q_H → Prop} {k n : Nat} {t : Nat} {r : Nat} {m : Nat} {z : Nat} {N : Nat} {ext : Nat → q_Sh} {rx : Nat → Nat → Option Nat} {L : Nat → Nat → Int64} (hd : 4 ≤ d) (hk : k ≤ mc) (hn : n ≤ ms)  {v2 : Int32} {v3 : Int32} : ∀ (fu : Nat) {I : Nat → Nat → Int32} {E : Nat → Nat → Option Nat} {v4 : Int32} {r0 : (Nat → Int32) × (Nat → Int32)} (hf : f_X8_reckon_L5 (I 402) (I 405) (I 457) (I 461) (I 462) (I 465) (I 470) (E 404) v2 v3 fu (I 490) (I 491) v4 = some r0) (hK0 : q_J g m_X8_reckon d mc ms h0 [] Q k n (q_kc (t, r, m, z, N, ext, rx, L) I E 30 [some (.ref 490), none, none, none, none] [] [(490, r0.1), (491, r0.2)] [])), q_J g m_X8_reckon d mc ms h0 [] Q k n (5, [some (.ref 490), some (.ref 457), some (.int v2), some (.int v3), some (.int v4)], [], q_hp (t, r, m, z, N, ext, rx, L) I E) := by
  intro fu
  induction fu with
  | zero =>
    intro I E v4 r0 hf hK0
    rw [f_X8_reckon_L5] at hf
    cases hf
  | succ fu ih =>
    intro I E v4 r0 hf hK0
    rw [f_X8_reckon_L5] at hf
    change q_J g m_X8_reckon d mc ms h0 [] Q k n (q_kc (t, r, m, z, N, ext, rx, L) I E 5 [some (.ref 490), some (.ref 457), some (.int v2), some (.int v3), some (.int v4)] [] [] [])
    refine q_blf 2 [] (a := q_kc (t, r, m, z, N, ext, rx, L) I E 30 [some (.ref 490), some (.ref 457), some (.int v2), some (.int v3), some (.int v4)] [] [] []) (b := q_kc (t, r, m, z, N, ext, rx, L) I E 8 [some (.ref 490), some (.ref 457), some (.int v2), some (.int v3), some (.int v4)] [] [] []) (P := (400 : Int32) ≤ v4) ok_X8_reckon rfl q_cn (fun h1 => ?_) (fun h1 => ?_)
    · have hf := q_ip h1 hf
      refine q_less (ls' := [some (.ref 490), none, none, none, none]) (q_sb2 (q_sb1 (q_sb1 (q_sb1 (q_sb1 q_sb0))))) ?_
      cases hf
      exact q_Jpad [490, 491] [] rfl rfl hK0
    · have hf := q_in h1 hf
      refine q_blf 4 [] (a := q_kc (t, r, m, z, N, ext, rx, L) I E 30 [some (.ref 490), some (.ref 457), some (.int v2), some (.int v3), some (.int v4)] [] [] []) (b := q_kc (t, r, m, z, N, ext, rx, L) I E 13 [some (.ref 490), some (.ref 457), some (.int v2), some (.int v3), some (.int v4)] [] [] []) (P := v3 ≤ (v2 + v4)) ok_X8_reckon rfl q_cn (fun h2 => ?_) (fun h2 => ?_)
      · have hf := q_ip h2 hf
        refine q_less (ls' := [some (.ref 490), none, none, none, none]) (q_sb2 (q_sb1 (q_sb1 (q_sb1 (q_sb1 q_sb0))))) ?_
        cases hf
        exact q_Jpad [490, 491] [] rfl rfl hK0
      · have hf := q_in h2 hf
        refine q_blk 7 [] (c' := q_kc (t, r, m, z, N, ext, rx, L) I E 20 [some (.ref 490), some (.ref 457), some (.int v2), some (.int v3), some (.int v4)] [.int (v2 + v4), .ref 402, .ref 457, .ref 490] [] []) ok_X8_reckon rfl q_cn ?_
        obtain ⟨r3, hr3, hf⟩ := q_bd hf
        obtain ⟨u4, hu5, hf⟩ := q_bd hf
        refine q_kV (M2 := m_X6_order) (As := [.int (v2 + v4)]) (b := 402) (v2 := some (.ref r3)) ok_X8_reckon ok_X6_order cv_X6_order (ct_X6_order_402 (d := 2) (Nat.le_refl _) hr3) rfl rfl (Or.inl rfl) rfl rfl rfl rfl (Nat.le_trans (Nat.le_of_ble_eq_true rfl) hd) hk hn (Nat.le_of_ble_eq_true rfl) (fun x hx => absurd hx List.not_mem_nil) (q_nmL0 _) (q_nmS0 _) rfl (pos' := 21) (st' := [.ref r3, .ref 457, .ref 490]) (lI' := []) (lE' := []) rfl rfl rfl rfl ?_
        refine q_blk 5 [] (c' := q_kc (t, r, m, z, N, ext, rx, L) I E 26 [some (.ref 490), some (.ref 457), some (.int v2), some (.int v3), some (.int v4)] [.int (v2 + v4), .ref 402, .ref r3, .ref 457, .ref 490] [] []) ok_X8_reckon rfl q_cn ?_
        obtain ⟨r6, hr6, hf⟩ := q_bd hf
        refine q_kV (M2 := m_X6_orderNumber) (As := [.int (v2 + v4)]) (b := 402) (v2 := some (.int r6)) ok_X8_reckon ok_X6_orderNumber cv_X6_orderNumber (ct_X6_orderNumber_402 (d := 2) (Nat.le_refl _) hr6) rfl rfl (Or.inl rfl) rfl rfl rfl rfl (Nat.le_trans (Nat.le_of_ble_eq_true rfl) hd) hk hn (Nat.le_of_ble_eq_true rfl) (fun x hx => absurd hx List.not_mem_nil) (q_nmL0 _) (q_nmS0 _) rfl (pos' := 27) (st' := [.int r6, .ref r3, .ref 457, .ref 490]) (lI' := []) (lE' := []) rfl rfl rfl rfl ?_
        obtain ⟨r7, hr7, hf⟩ := q_bd hf
        refine q_kV (M2 := m_X8_obey) (As := [.ref 457, .ref r3, .int r6]) (b := 490) (v2 := none) ok_X8_reckon ok_X8_obey cv_X8_obey (ct_X8_obey_490_457 (d := 3) (Nat.le_refl _) hr7) rfl rfl (Or.inl rfl) rfl rfl rfl rfl (Nat.le_trans (Nat.le_of_ble_eq_true rfl) hd) hk hn (Nat.le_of_ble_eq_true rfl) (fun x hx => absurd hx List.not_mem_nil) (q_nmL0 _) (q_nmS0 _) rfl (pos' := 28) (st' := []) (lI' := [(490, r7.1), (491, r7.2)]) (lE' := []) rfl rfl rfl rfl ?_
        refine q_blk 2 [] (c' := q_kc (t, r, m, z, N, ext, rx, L) I E 5 [some (.ref 490), some (.ref 457), some (.int v2), some (.int v3), some (.int (v4 + 1))] [] [(490, r7.1), (491, r7.2)] []) ok_X8_reckon rfl q_cn ?_
        exact ih (I := q_ws I [(490, r7.1), (491, r7.2)]) (E := q_ws E []) hf (q_Jmrg rfl rfl hK0)
set_option maxHeartbeats 4000000 in
theorem ct_X8_reckon_490_457 {g : q_G} {t : Nat} {r : Nat} {m : Nat} {z : Nat} {N : Nat} {ext : Nat → q_Sh} {rx : Nat → Nat → Option Nat} {L : Nat → Nat → Int64} {d : Nat} (hd : 4 ≤ d)  {I : Nat → Nat → Int32} {E : Nat → Nat → Option Nat} {x2 : Int32} {x3 : Int32} {r0 : Int32 × (Nat → Int32) × (Nat → Int32)} (hf : f_X8_reckon (I 402) (I 405) (I 457) (I 461) (I 462) (I 465) (I 470) (I 490) (I 491) (E 404) x2 x3 = some r0) : q_Ct g m_X8_reckon d 0 0 [] [.ref 490, .ref 457, .int x2, .int x3] (q_hp (t, r, m, z, N, ext, rx, L) I E) (fun o h' => o = .inl (some (.int r0.1)) ∧ h' = q_hp (t, r, m, z, N, ext, rx, L) (q_ws I [(490, r0.2.1), (491, r0.2.2)]) (q_ws E [])) := by
  rw [f_X8_reckon] at hf
  refine q_Ct_of ok_X8_reckon (Nat.le_of_ble_eq_true rfl) ?_ _ rfl rfl
  change q_J g m_X8_reckon d 0 0 _ [] _ 0 0 (q_kc (t, r, m, z, N, ext, rx, L) I E 0 [some (.ref 490), some (.ref 457), some (.int x2), some (.int x3), none] [] [] [])
  refine q_blk 5 [] (c' := q_kc (t, r, m, z, N, ext, rx, L) I E 5 [some (.ref 490), some (.ref 457), some (.int x2), some (.int x3), some (.int (0 : Int32))] [] [(490, (q_up (I 490) 1 (0 : Int32)))] []) ok_X8_reckon rfl q_cn ?_
  obtain ⟨r8, hr8, hf⟩ := q_bd hf
  refine lp_X8_reckon_L5_490_457 (I := q_ws I [(490, (q_up (I 490) 1 (0 : Int32)))]) (E := q_ws E []) hd (Nat.le_of_ble_eq_true rfl) (Nat.le_of_ble_eq_true rfl) 4096 hr8 ?_
  refine q_Jmrg (lI' := [(490, r8.1), (491, r8.2)]) (lE' := []) rfl rfl ?_
  refine q_blk 1 [] (c' := q_kc (t, r, m, z, N, ext, rx, L) I E 31 [some (.ref 490), none, none, none, none] [.ref 490] [(490, r8.1), (491, r8.2)] []) ok_X8_reckon rfl q_cn ?_
  obtain ⟨r9, hr9, hf⟩ := q_bd hf
  refine q_kV (M2 := m_X8_pop) (As := []) (b := 490) (v2 := some (.int r9.1)) ok_X8_reckon ok_X8_pop cv_X8_pop (ct_X8_pop_490 (d := 1) (Nat.le_refl _) hr9) rfl rfl (Or.inl rfl) rfl rfl rfl rfl (Nat.le_trans (Nat.le_of_ble_eq_true rfl) hd) (Nat.le_of_ble_eq_true rfl) (Nat.le_of_ble_eq_true rfl) (Nat.le_of_ble_eq_true rfl) (fun x hx => absurd hx List.not_mem_nil) (q_nmL0 _) (q_nmS0 _) rfl (pos' := 32) (st' := [.int r9.1]) (lI' := [(490, r9.2), (491, r8.2)]) (lE' := []) rfl rfl rfl rfl ?_
  cases hf
  exact q_kri ok_X8_reckon rfl rfl rfl (Nat.le_of_ble_eq_true rfl) (Nat.le_of_ble_eq_true rfl) ⟨rfl, q_hpe (q_fin [490, 491] rfl) (q_fin [] rfl)⟩
set_option maxHeartbeats 4000000 in
theorem ct_X2_untieRope_457 {g : q_G} {t : Nat} {r : Nat} {m : Nat} {z : Nat} {N : Nat} {ext : Nat → q_Sh} {rx : Nat → Nat → Option Nat} {L : Nat → Nat → Int64} {d : Nat} (hd : 3 ≤ d)  {I : Nat → Nat → Int32} {E : Nat → Nat → Option Nat} {x1 : Int32} {x2 : Int32} {r0 : Bool × (Nat → Int32)} (hf : f_X2_untieRope (I 463) (I 464) (I 470) x1 x2 = some r0) : q_Ct g m_X2_untieRope d 0 0 [] [.ref 457, .int x1, .int x2] (q_hp (t, r, m, z, N, ext, rx, L) I E) (fun o h' => o = .inl (some (.int (q_bz r0.1))) ∧ h' = q_hp (t, r, m, z, N, ext, rx, L) (q_ws I [(464, r0.2)]) (q_ws E [])) := by
  rw [f_X2_untieRope] at hf
  refine q_Ct_of ok_X2_untieRope (Nat.le_of_ble_eq_true rfl) ?_ _ rfl rfl
  change q_J g m_X2_untieRope d 0 0 _ [] _ 0 0 (q_kc (t, r, m, z, N, ext, rx, L) I E 0 [some (.ref 457), some (.int x1), some (.int x2), none] [] [] [])
  refine q_blk 2 [] (c' := q_kc (t, r, m, z, N, ext, rx, L) I E 2 [some (.ref 457), some (.int x1), some (.int x2), none] [.int x1, .ref 457] [] []) ok_X2_untieRope rfl q_cn ?_
  obtain ⟨r1, hr1, hf⟩ := q_bd hf
  refine q_kV (M2 := m_X2_held) (As := [.int x1]) (b := 457) (v2 := some (.int r1)) ok_X2_untieRope ok_X2_held cv_X2_held (ct_X2_held_457 (d := 1) (Nat.le_refl _) hr1) rfl rfl (Or.inl rfl) rfl rfl rfl rfl (Nat.le_trans (Nat.le_of_ble_eq_true rfl) hd) (Nat.le_of_ble_eq_true rfl) (Nat.le_of_ble_eq_true rfl) (Nat.le_of_ble_eq_true rfl) (fun x hx => absurd hx List.not_mem_nil) (q_nmL0 _) (q_nmS0 _) rfl (pos' := 3) (st' := [.int r1]) (lI' := []) (lE' := []) rfl rfl rfl rfl ?_
  refine q_blk 5 [] (c' := q_kc (t, r, m, z, N, ext, rx, L) I E 8 [some (.ref 457), some (.int x1), some (.int x2), some (.int r1)] [.int x2, .int r1, .ref 458] [] []) ok_X2_untieRope rfl q_cn ?_
  obtain ⟨r2, hr2, hf⟩ := q_bd hf
  refine q_kV (M2 := m_X1_hasRope) (As := [.int r1, .int x2]) (b := 458) (v2 := some (.int (q_bz r2))) ok_X2_untieRope ok_X1_hasRope cv_X1_hasRope (ct_X1_hasRope_458 (d := 1) (Nat.le_refl _) hr2) rfl rfl (Or.inl rfl) rfl rfl rfl rfl (Nat.le_trans (Nat.le_of_ble_eq_true rfl) hd) (Nat.le_of_ble_eq_true rfl) (Nat.le_of_ble_eq_true rfl) (Nat.le_of_ble_eq_true rfl) (fun x hx => absurd hx List.not_mem_nil) (q_nmL0 _) (q_nmS0 _) rfl (pos' := 9) (st' := [.int (q_bz r2)]) (lI' := []) (lE' := []) rfl rfl rfl rfl ?_
  refine q_blf 0 [] (a := q_kc (t, r, m, z, N, ext, rx, L) I E 12 [some (.ref 457), some (.int x1), some (.int x2), some (.int r1)] [] [] []) (b := q_kc (t, r, m, z, N, ext, rx, L) I E 10 [some (.ref 457), some (.int x1), some (.int x2), some (.int r1)] [] [] []) (P := ¬ (q_bz r2) = 0) ok_X2_untieRope rfl q_cn (fun h3 => ?_) (fun h3 => ?_)
  · have hf := q_ip h3 hf
    refine q_blk 5 [] (c' := q_kc (t, r, m, z, N, ext, rx, L) I E 17 [some (.ref 457), some (.int x1), some (.int x2), some (.int r1)] [.int (-1 : Int32), .int x2, .int r1, .ref 458] [] []) ok_X2_untieRope rfl q_cn ?_
    obtain ⟨r4, hr4, hf⟩ := q_bd hf
    refine q_kV (M2 := m_X1_setLead) (As := [.int r1, .int x2, .int (-1 : Int32)]) (b := 458) (v2 := none) ok_X2_untieRope ok_X1_setLead cv_X1_setLead (ct_X1_setLead_458 (d := 2) (Nat.le_refl _) hr4) rfl rfl (Or.inl rfl) rfl rfl rfl rfl (Nat.le_trans (Nat.le_of_ble_eq_true rfl) hd) (Nat.le_of_ble_eq_true rfl) (Nat.le_of_ble_eq_true rfl) (Nat.le_of_ble_eq_true rfl) (fun x hx => absurd hx List.not_mem_nil) (q_nmL0 _) (q_nmS0 _) rfl (pos' := 18) (st' := []) (lI' := [(464, r4)]) (lE' := []) rfl rfl rfl rfl ?_
    refine q_blk 1 [] (c' := q_kc (t, r, m, z, N, ext, rx, L) I E 19 [some (.ref 457), some (.int x1), some (.int x2), some (.int r1)] [.int (1 : Int32)] [(464, r4)] []) ok_X2_untieRope rfl q_cn ?_
    cases hf
    exact q_kri ok_X2_untieRope rfl rfl rfl (Nat.le_of_ble_eq_true rfl) (Nat.le_of_ble_eq_true rfl) ⟨rfl, q_hpe (q_fin [464] rfl) (q_fin [] rfl)⟩
  · have hf := q_in h3 hf
    refine q_blk 1 [] (c' := q_kc (t, r, m, z, N, ext, rx, L) I E 11 [some (.ref 457), some (.int x1), some (.int x2), some (.int r1)] [.int (0 : Int32)] [] []) ok_X2_untieRope rfl q_cn ?_
    cases hf
    exact q_kri ok_X2_untieRope rfl rfl rfl (Nat.le_of_ble_eq_true rfl) (Nat.le_of_ble_eq_true rfl) ⟨rfl, q_hpe (q_fin [464] rfl) (q_fin [] rfl)⟩
set_option maxHeartbeats 4000000 in
theorem ct_X3_perform_489_457_T406 {g : q_G} {t : Nat} {r : Nat} {m : Nat} {ext : Nat → q_Sh} {rx : Nat → Nat → Option Nat} {L : Nat → Nat → Int64} {d : Nat} (hd : 5 ≤ d)  {I : Nat → Nat → Int32} {E : Nat → Nat → Option Nat} {x2 : Nat} {r0 : Bool × (Nat → Int32) × (Nat → Int32) × (Nat → Int32) × (Nat → Int32) × (Nat → Int32) × (Nat → Int32) × (Nat → Int32) × (Nat → Int32) × (Nat → Int32) × (Nat → Int32) × (Nat → Int32) × (Nat → Int32) × (Nat → Int32) × (Nat → Int32) × (Nat → Int32) × (Nat → Int32) × (Nat → Int32)} (hf : f_X3_perform (I 402) (I 405) (I 457) (I 459) (I 460) (I 461) (I 462) (I 463) (I 464) (I 465) (I 466) (I 467) (I 468) (I 469) (I 470) (I 471) (I 472) (I 490) (I 491) (E 404) (fun j => I (406 + j)) (fun j => E (406 + j)) x2 = some r0) : q_Ct g m_X3_perform d 0 0 [471, 472] [.ref 489, .ref 457, .ref (406 + x2)] (q_hp (t, r, m, 499, 529, ext, rx, L) I E) (fun o h' => o = .inl (some (.int (q_bz r0.1))) ∧ h' = q_hp (t, r, m, 499, 529, ext, rx, L) (q_ws I [(457, r0.2.1), (459, r0.2.2.1), (460, r0.2.2.2.1), (461, r0.2.2.2.2.1), (462, r0.2.2.2.2.2.1), (463, r0.2.2.2.2.2.2.1), (464, r0.2.2.2.2.2.2.2.1), (465, r0.2.2.2.2.2.2.2.2.1), (466, r0.2.2.2.2.2.2.2.2.2.1), (467, r0.2.2.2.2.2.2.2.2.2.2.1), (468, r0.2.2.2.2.2.2.2.2.2.2.2.1), (469, r0.2.2.2.2.2.2.2.2.2.2.2.2.1), (470, r0.2.2.2.2.2.2.2.2.2.2.2.2.2.1), (471, r0.2.2.2.2.2.2.2.2.2.2.2.2.2.2.1), (472, r0.2.2.2.2.2.2.2.2.2.2.2.2.2.2.2.1), (490, r0.2.2.2.2.2.2.2.2.2.2.2.2.2.2.2.2.1), (491, r0.2.2.2.2.2.2.2.2.2.2.2.2.2.2.2.2.2)]) (q_ws E [])) := by
  rw [f_X3_perform] at hf
  refine q_Ct_of ok_X3_perform (Nat.le_of_ble_eq_true rfl) ?_ _ rfl rfl
  change q_J g m_X3_perform d 0 0 _ [471, 472] _ 0 0 (q_kc (t, r, m, 499, 529, ext, rx, L) I E 0 [some (.ref 489), some (.ref 457), some (.ref (406 + x2)), none] [] [] [])
  obtain ⟨ug2, hg2, hf⟩ := q_bd hf
  refine q_blk 2 [] (c' := q_kc (t, r, m, 499, 529, ext, rx, L) I E 2 [some (.ref 489), some (.ref 457), some (.ref (406 + x2)), none] [.ref (406 + x2), .ref 50] [] []) ok_X3_perform rfl q_cn ?_
  refine q_kgK (pos' := 3) (o := ((fun j => E (406 + j)) x2 0)) ok_X3_perform rfl (Or.inl rfl) (q_t20_lt hg2) rfl rfl (q_wsT0 (q_t20_lt hg2) rfl) rfl (fun hb2 => ?_) (fun b1 hb2 hl3 => ?_)
  · have hf := q_on0 hb2 hf
    cases hf
  · have hf := q_on1 hb2 hf
    refine q_kord (pos' := 4) ok_X3_perform rfl (Or.inl rfl) hl3 (Nat.le_trans (Nat.le_of_ble_eq_true rfl) hd) (Nat.le_of_ble_eq_true rfl) (Nat.le_of_ble_eq_true rfl) rfl ?_
    obtain ⟨j4, hj4, hf⟩ := q_bd hf
    refine q_blk 1 [j4] (c' := q_kc (t, r, m, 499, 529, ext, rx, L) I E 5 [some (.ref 489), some (.ref 457), some (.ref (406 + x2)), none] [.int (q_sw j4)] [] []) ok_X3_perform rfl (q_cc hj4 q_cn) ?_
    refine q_ksw [6, 27, 36, 43] ok_X3_perform rfl (dp := 52) rfl (fun ix t9 ht9 hx9 => ?_) (fun hx9 => ?_) (by decide) (by decide)
    · match ix, ht9 with
      | 0, ht9 =>
        have hx9 : (q_sw j4) = 32 := hx9
        cases ht9
        have hf := q_ip hx9 hf
        refine q_blk 4 [] (c' := q_kc (t, r, m, 499, 529, ext, rx, L) I E 10 [some (.ref 489), some (.ref 457), some (.ref (406 + x2)), none] [.ref (406 + x2), .ref 457, .ref 490] [] []) ok_X3_perform rfl q_cn ?_
        refine q_kgT (pos' := 11) (x := ((fun j => I (406 + j)) x2 4)) ok_X3_perform rfl (Or.inl rfl) (q_t20_lt hg2) rfl rfl (q_wsT0 (q_t20_lt hg2) rfl) rfl ?_
        refine q_blk 1 [] (c' := q_kc (t, r, m, 499, 529, ext, rx, L) I E 12 [some (.ref 489), some (.ref 457), some (.ref (406 + x2)), none] [.ref (406 + x2), .int ((fun j => I (406 + j)) x2 4), .ref 457, .ref 490] [] []) ok_X3_perform rfl q_cn ?_
        refine q_kgT (pos' := 13) (x := ((fun j => I (406 + j)) x2 5)) ok_X3_perform rfl (Or.inl rfl) (q_t20_lt hg2) rfl rfl (q_wsT0 (q_t20_lt hg2) rfl) rfl ?_
        obtain ⟨r5, hr5, hf⟩ := q_bd hf
        refine q_kV (M2 := m_X8_reckon) (As := [.ref 457, .int ((fun j => I (406 + j)) x2 4), .int ((fun j => I (406 + j)) x2 5)]) (b := 490) (v2 := some (.int r5.1)) ok_X3_perform ok_X8_reckon cv_X8_reckon (ct_X8_reckon_490_457 (d := 4) (Nat.le_refl _) hr5) rfl rfl (Or.inl rfl) rfl rfl rfl rfl (Nat.le_trans (Nat.le_of_ble_eq_true rfl) hd) (Nat.le_of_ble_eq_true rfl) (Nat.le_of_ble_eq_true rfl) (Nat.le_of_ble_eq_true rfl) (fun x hx => absurd hx List.not_mem_nil) (q_nmL0 _) (q_nmS0 _) rfl (pos' := 14) (st' := [.int r5.1]) (lI' := [(490, r5.2.1), (491, r5.2.2)]) (lE' := []) rfl rfl rfl rfl ?_
        refine q_blk 3 [] (c' := q_kc (t, r, m, 499, 529, ext, rx, L) I E 17 [some (.ref 489), some (.ref 457), some (.ref (406 + x2)), some (.int r5.1)] [.ref (406 + x2), .ref 457] [(490, r5.2.1), (491, r5.2.2)] []) ok_X3_perform rfl q_cn ?_
        refine q_kgT (pos' := 18) (x := ((fun j => I (406 + j)) x2 1)) ok_X3_perform rfl (Or.inl rfl) (q_t20_lt hg2) rfl rfl (q_wsT0 (q_t20_lt hg2) rfl) rfl ?_
        refine q_blk 2 [] (c' := q_kc (t, r, m, 499, 529, ext, rx, L) I E 20 [some (.ref 489), some (.ref 457), some (.ref (406 + x2)), some (.int r5.1)] [.int (1 : Int32), .int r5.1, .int ((fun j => I (406 + j)) x2 1), .ref 457] [(490, r5.2.1), (491, r5.2.2)] []) ok_X3_perform rfl q_cn ?_
        refine q_kmx (pos' := 21) ok_X3_perform rfl rfl (Nat.le_trans (Nat.le_of_ble_eq_true rfl) hd) (Nat.le_of_ble_eq_true rfl) (Nat.le_of_ble_eq_true rfl) (Nat.le_of_ble_eq_true rfl) rfl ?_
        refine q_blk 1 [] (c' := q_kc (t, r, m, 499, 529, ext, rx, L) I E 22 [some (.ref 489), some (.ref 457), some (.ref (406 + x2)), some (.int r5.1)] [.int (9 : Int32), .int (q_max r5.1 (1 : Int32)), .int ((fun j => I (406 + j)) x2 1), .ref 457] [(490, r5.2.1), (491, r5.2.2)] []) ok_X3_perform rfl q_cn ?_
        refine q_kmn (pos' := 23) ok_X3_perform rfl rfl (Nat.le_trans (Nat.le_of_ble_eq_true rfl) hd) (Nat.le_of_ble_eq_true rfl) (Nat.le_of_ble_eq_true rfl) (Nat.le_of_ble_eq_true rfl) rfl ?_
        refine q_blk 1 [] (c' := q_kc (t, r, m, 499, 529, ext, rx, L) I E 24 [some (.ref 489), some (.ref 457), some (.ref (406 + x2)), some (.int r5.1)] [.ref (406 + x2), .int (q_min (q_max r5.1 (1 : Int32)) (9 : Int32)), .int ((fun j => I (406 + j)) x2 1), .ref 457] [(490, r5.2.1), (491, r5.2.2)] []) ok_X3_perform rfl q_cn ?_
        refine q_kgT (pos' := 25) (x := ((fun j => I (406 + j)) x2 3)) ok_X3_perform rfl (Or.inl rfl) (q_t20_lt hg2) rfl rfl (q_wsT0 (q_t20_lt hg2) rfl) rfl ?_
        refine q_less (ls' := [none, none, none, none]) (q_sb1 (q_sb1 (q_sb1 (q_sb1 q_sb0)))) ?_
        obtain ⟨r6, hr6, hf⟩ := q_bd hf
        refine q_kV (M2 := m_X2_makeBale) (As := [.int ((fun j => I (406 + j)) x2 1), .int (q_min (q_max r5.1 (1 : Int32)) (9 : Int32)), .int ((fun j => I (406 + j)) x2 3)]) (b := 457) (v2 := some (.int (q_bz r6.1))) ok_X3_perform ok_X2_makeBale cv_X2_makeBale (ct_X2_makeBale_457 (d := 4) (Nat.le_refl _) hr6) rfl rfl (Or.inl rfl) rfl rfl rfl rfl (Nat.le_trans (Nat.le_of_ble_eq_true rfl) hd) (Nat.le_of_ble_eq_true rfl) (Nat.le_of_ble_eq_true rfl) (Nat.le_of_ble_eq_true rfl) (fun x hx => hx) rfl rfl rfl (pos' := 26) (st' := [.int (q_bz r6.1)]) (lI' := [(457, r6.2.1), (459, r6.2.2.1), (460, r6.2.2.2.1), (461, r6.2.2.2.2.1), (462, r6.2.2.2.2.2.1), (463, r6.2.2.2.2.2.2.1), (464, r6.2.2.2.2.2.2.2.1), (465, r6.2.2.2.2.2.2.2.2.1), (466, r6.2.2.2.2.2.2.2.2.2.1), (467, r6.2.2.2.2.2.2.2.2.2.2.1), (468, r6.2.2.2.2.2.2.2.2.2.2.2.1), (469, r6.2.2.2.2.2.2.2.2.2.2.2.2.1), (470, r6.2.2.2.2.2.2.2.2.2.2.2.2.2.1), (471, r6.2.2.2.2.2.2.2.2.2.2.2.2.2.2.1), (472, r6.2.2.2.2.2.2.2.2.2.2.2.2.2.2.2), (490, r5.2.1), (491, r5.2.2)]) (lE' := []) rfl rfl rfl rfl ?_
        cases hf
        exact q_kri ok_X3_perform rfl rfl (q_bz_nr _) (Nat.le_of_ble_eq_true rfl) (Nat.le_of_ble_eq_true rfl) ⟨rfl, q_hpe (q_fin [457, 459, 460, 461, 462, 463, 464, 465, 466, 467, 468, 469, 470, 471, 472, 490, 491] rfl) (q_fin [] rfl)⟩
      | 1, ht9 =>
        have hx9 : (q_sw j4) = 33 := hx9
        cases ht9
        have hf := q_in (fun hz9 => absurd (hx9.symm.trans hz9) (by decide)) hf
        have hf := q_ip hx9 hf
        refine q_blk 2 [] (c' := q_kc (t, r, m, 499, 529, ext, rx, L) I E 29 [some (.ref 489), some (.ref 457), some (.ref (406 + x2)), none] [.ref (406 + x2), .ref 457] [] []) ok_X3_perform rfl q_cn ?_
        refine q_kgT (pos' := 30) (x := ((fun j => I (406 + j)) x2 1)) ok_X3_perform rfl (Or.inl rfl) (q_t20_lt hg2) rfl rfl (q_wsT0 (q_t20_lt hg2) rfl) rfl ?_
        refine q_blk 1 [] (c' := q_kc (t, r, m, 499, 529, ext, rx, L) I E 31 [some (.ref 489), some (.ref 457), some (.ref (406 + x2)), none] [.ref (406 + x2), .int ((fun j => I (406 + j)) x2 1), .ref 457] [] []) ok_X3_perform rfl q_cn ?_
        refine q_kgT (pos' := 32) (x := ((fun j => I (406 + j)) x2 3)) ok_X3_perform rfl (Or.inl rfl) (q_t20_lt hg2) rfl rfl (q_wsT0 (q_t20_lt hg2) rfl) rfl ?_
        refine q_blk 1 [] (c' := q_kc (t, r, m, 499, 529, ext, rx, L) I E 33 [some (.ref 489), some (.ref 457), some (.ref (406 + x2)), none] [.ref (406 + x2), .int ((fun j => I (406 + j)) x2 3), .int ((fun j => I (406 + j)) x2 1), .ref 457] [] []) ok_X3_perform rfl q_cn ?_
        refine q_kgT (pos' := 34) (x := ((fun j => I (406 + j)) x2 2)) ok_X3_perform rfl (Or.inl rfl) (q_t20_lt hg2) rfl rfl (q_wsT0 (q_t20_lt hg2) rfl) rfl ?_
        obtain ⟨r7, hr7, hf⟩ := q_bd hf
        refine q_kV (M2 := m_X2_tieRope) (As := [.int ((fun j => I (406 + j)) x2 1), .int ((fun j => I (406 + j)) x2 3), .int ((fun j => I (406 + j)) x2 2)]) (b := 457) (v2 := some (.int (q_bz r7.1))) ok_X3_perform ok_X2_tieRope cv_X2_tieRope (ct_X2_tieRope_457 (d := 3) (Nat.le_refl _) hr7) rfl rfl (Or.inl rfl) rfl rfl rfl rfl (Nat.le_trans (Nat.le_of_ble_eq_true rfl) hd) (Nat.le_of_ble_eq_true rfl) (Nat.le_of_ble_eq_true rfl) (Nat.le_of_ble_eq_true rfl) (fun x hx => absurd hx List.not_mem_nil) (q_nmL0 _) (q_nmS0 _) rfl (pos' := 35) (st' := [.int (q_bz r7.1)]) (lI' := [(464, r7.2)]) (lE' := []) rfl rfl rfl rfl ?_
        cases hf
        exact q_kri ok_X3_perform rfl rfl (q_bz_nr _) (Nat.le_of_ble_eq_true rfl) (Nat.le_of_ble_eq_true rfl) ⟨rfl, q_hpe (q_fin [457, 459, 460, 461, 462, 463, 464, 465, 466, 467, 468, 469, 470, 471, 472, 490, 491] rfl) (q_fin [] rfl)⟩
      | 2, ht9 =>
        have hx9 : (q_sw j4) = 34 := hx9
        cases ht9
        have hf := q_in (fun hz9 => absurd (hx9.symm.trans hz9) (by decide)) hf
        have hf := q_in (fun hz9 => absurd (hx9.symm.trans hz9) (by decide)) hf
        have hf := q_ip hx9 hf
        refine q_blk 2 [] (c' := q_kc (t, r, m, 499, 529, ext, rx, L) I E 38 [some (.ref 489), some (.ref 457), some (.ref (406 + x2)), none] [.ref (406 + x2), .ref 457] [] []) ok_X3_perform rfl q_cn ?_
        refine q_kgT (pos' := 39) (x := ((fun j => I (406 + j)) x2 1)) ok_X3_perform rfl (Or.inl rfl) (q_t20_lt hg2) rfl rfl (q_wsT0 (q_t20_lt hg2) rfl) rfl ?_
        refine q_blk 1 [] (c' := q_kc (t, r, m, 499, 529, ext, rx, L) I E 40 [some (.ref 489), some (.ref 457), some (.ref (406 + x2)), none] [.ref (406 + x2), .int ((fun j => I (406 + j)) x2 1), .ref 457] [] []) ok_X3_perform rfl q_cn ?_
        refine q_kgT (pos' := 41) (x := ((fun j => I (406 + j)) x2 3)) ok_X3_perform rfl (Or.inl rfl) (q_t20_lt hg2) rfl rfl (q_wsT0 (q_t20_lt hg2) rfl) rfl ?_
        obtain ⟨r8, hr8, hf⟩ := q_bd hf
        refine q_kV (M2 := m_X2_untieRope) (As := [.int ((fun j => I (406 + j)) x2 1), .int ((fun j => I (406 + j)) x2 3)]) (b := 457) (v2 := some (.int (q_bz r8.1))) ok_X3_perform ok_X2_untieRope cv_X2_untieRope (ct_X2_untieRope_457 (d := 3) (Nat.le_refl _) hr8) rfl rfl (Or.inl rfl) rfl rfl rfl rfl (Nat.le_trans (Nat.le_of_ble_eq_true rfl) hd) (Nat.le_of_ble_eq_true rfl) (Nat.le_of_ble_eq_true rfl) (Nat.le_of_ble_eq_true rfl) (fun x hx => absurd hx List.not_mem_nil) (q_nmL0 _) (q_nmS0 _) rfl (pos' := 42) (st' := [.int (q_bz r8.1)]) (lI' := [(464, r8.2)]) (lE' := []) rfl rfl rfl rfl ?_
        cases hf
        exact q_kri ok_X3_perform rfl rfl (q_bz_nr _) (Nat.le_of_ble_eq_true rfl) (Nat.le_of_ble_eq_true rfl) ⟨rfl, q_hpe (q_fin [457, 459, 460, 461, 462, 463, 464, 465, 466, 467, 468, 469, 470, 471, 472, 490, 491] rfl) (q_fin [] rfl)⟩
      | 3, ht9 =>
        have hx9 : (q_sw j4) = 35 := hx9
        cases ht9
        have hf := q_in (fun hz9 => absurd (hx9.symm.trans hz9) (by decide)) hf
        have hf := q_in (fun hz9 => absurd (hx9.symm.trans hz9) (by decide)) hf
        have hf := q_in (fun hz9 => absurd (hx9.symm.trans hz9) (by decide)) hf
        have hf := q_ip hx9 hf
        refine q_blk 2 [] (c' := q_kc (t, r, m, 499, 529, ext, rx, L) I E 45 [some (.ref 489), some (.ref 457), some (.ref (406 + x2)), none] [.ref (406 + x2), .ref 457] [] []) ok_X3_perform rfl q_cn ?_
        refine q_kgT (pos' := 46) (x := ((fun j => I (406 + j)) x2 1)) ok_X3_perform rfl (Or.inl rfl) (q_t20_lt hg2) rfl rfl (q_wsT0 (q_t20_lt hg2) rfl) rfl ?_
        refine q_blk 1 [] (c' := q_kc (t, r, m, 499, 529, ext, rx, L) I E 47 [some (.ref 489), some (.ref 457), some (.ref (406 + x2)), none] [.ref (406 + x2), .int ((fun j => I (406 + j)) x2 1), .ref 457] [] []) ok_X3_perform rfl q_cn ?_
        refine q_kgT (pos' := 48) (x := ((fun j => I (406 + j)) x2 2)) ok_X3_perform rfl (Or.inl rfl) (q_t20_lt hg2) rfl rfl (q_wsT0 (q_t20_lt hg2) rfl) rfl ?_
        refine q_blk 1 [] (c' := q_kc (t, r, m, 499, 529, ext, rx, L) I E 49 [some (.ref 489), some (.ref 457), some (.ref (406 + x2)), none] [.ref (406 + x2), .int ((fun j => I (406 + j)) x2 2), .int ((fun j => I (406 + j)) x2 1), .ref 457] [] []) ok_X3_perform rfl q_cn ?_
        refine q_kgT (pos' := 50) (x := ((fun j => I (406 + j)) x2 3)) ok_X3_perform rfl (Or.inl rfl) (q_t20_lt hg2) rfl rfl (q_wsT0 (q_t20_lt hg2) rfl) rfl ?_
        obtain ⟨r9, hr9, hf⟩ := q_bd hf
        refine q_kV (M2 := m_X2_followRope) (As := [.int ((fun j => I (406 + j)) x2 1), .int ((fun j => I (406 + j)) x2 2), .int ((fun j => I (406 + j)) x2 3)]) (b := 457) (v2 := some (.int (q_bz r9.1))) ok_X3_perform ok_X2_followRope cv_X2_followRope (ct_X2_followRope_457 (d := 3) (Nat.le_refl _) hr9) rfl rfl (Or.inl rfl) rfl rfl rfl rfl (Nat.le_trans (Nat.le_of_ble_eq_true rfl) hd) (Nat.le_of_ble_eq_true rfl) (Nat.le_of_ble_eq_true rfl) (Nat.le_of_ble_eq_true rfl) (fun x hx => absurd hx List.not_mem_nil) (q_nmL0 _) (q_nmS0 _) rfl (pos' := 51) (st' := [.int (q_bz r9.1)]) (lI' := [(470, r9.2)]) (lE' := []) rfl rfl rfl rfl ?_
        cases hf
        exact q_kri ok_X3_perform rfl rfl (q_bz_nr _) (Nat.le_of_ble_eq_true rfl) (Nat.le_of_ble_eq_true rfl) ⟨rfl, q_hpe (q_fin [457, 459, 460, 461, 462, 463, 464, 465, 466, 467, 468, 469, 470, 471, 472, 490, 491] rfl) (q_fin [] rfl)⟩
      | z9 + 4, ht9 => cases ht9
    · have hf := q_in (hx9 0 (by decide)) hf
      have hf := q_in (hx9 1 (by decide)) hf
      have hf := q_in (hx9 2 (by decide)) hf
      have hf := q_in (hx9 3 (by decide)) hf
      refine q_blk 2 [] (c' := q_kc (t, r, m, 499, 529, ext, rx, L) I E 54 [some (.ref 489), some (.ref 457), some (.ref (406 + x2)), none] [.ref (406 + x2), .ref 457] [] []) ok_X3_perform rfl q_cn ?_
      refine q_kgT (pos' := 55) (x := ((fun j => I (406 + j)) x2 1)) ok_X3_perform rfl (Or.inl rfl) (q_t20_lt hg2) rfl rfl (q_wsT0 (q_t20_lt hg2) rfl) rfl ?_
      obtain ⟨r10, hr10, hf⟩ := q_bd hf
      refine q_kV (M2 := m_X2_dropBale) (As := [.int ((fun j => I (406 + j)) x2 1)]) (b := 457) (v2 := some (.int (q_bz r10.1))) ok_X3_perform ok_X2_dropBale cv_X2_dropBale (ct_X2_dropBale_457 (d := 2) (Nat.le_refl _) hr10) rfl rfl (Or.inl rfl) rfl rfl rfl rfl (Nat.le_trans (Nat.le_of_ble_eq_true rfl) hd) (Nat.le_of_ble_eq_true rfl) (Nat.le_of_ble_eq_true rfl) (Nat.le_of_ble_eq_true rfl) (fun x hx => absurd hx List.not_mem_nil) (q_nmL0 _) (q_nmS0 _) rfl (pos' := 56) (st' := [.int (q_bz r10.1)]) (lI' := [(470, r10.2)]) (lE' := []) rfl rfl rfl rfl ?_
      cases hf
      exact q_kri ok_X3_perform rfl rfl (q_bz_nr _) (Nat.le_of_ble_eq_true rfl) (Nat.le_of_ble_eq_true rfl) ⟨rfl, q_hpe (q_fin [457, 459, 460, 461, 462, 463, 464, 465, 466, 467, 468, 469, 470, 471, 472, 490, 491] rfl) (q_fin [] rfl)⟩
set_option maxHeartbeats 4000000 in
theorem ct_X3_passNext_489_457 {g : q_G} {t : Nat} {r : Nat} {m : Nat} {ext : Nat → q_Sh} {rx : Nat → Nat → Option Nat} {L : Nat → Nat → Int64} {d : Nat} (hd : 6 ≤ d)  {I : Nat → Nat → Int32} {E : Nat → Nat → Option Nat} {r0 : Bool × (Nat → Int32) × (Nat → Int32) × (Nat → Int32) × (Nat → Int32) × (Nat → Int32) × (Nat → Int32) × (Nat → Int32) × (Nat → Int32) × (Nat → Int32) × (Nat → Int32) × (Nat → Int32) × (Nat → Int32) × (Nat → Int32) × (Nat → Int32) × (Nat → Int32) × (Nat → Int32) × (Nat → Int32)} (hf : f_X3_passNext (I 402) (I 405) (I 457) (I 459) (I 460) (I 461) (I 462) (I 463) (I 464) (I 465) (I 466) (I 467) (I 468) (I 469) (I 470) (I 471) (I 472) (I 490) (I 491) (E 404) (fun j => I (406 + j)) (fun j => E (406 + j)) = some r0) : q_Ct g m_X3_passNext d 0 0 [471, 472] [.ref 489, .ref 457] (q_hp (t, r, m, 499, 529, ext, rx, L) I E) (fun o h' => o = .inl (some (.int (q_bz r0.1))) ∧ h' = q_hp (t, r, m, 499, 529, ext, rx, L) (q_ws I [(457, r0.2.1), (459, r0.2.2.1), (460, r0.2.2.2.1), (461, r0.2.2.2.2.1), (462, r0.2.2.2.2.2.1), (463, r0.2.2.2.2.2.2.1), (464, r0.2.2.2.2.2.2.2.1), (465, r0.2.2.2.2.2.2.2.2.1), (466, r0.2.2.2.2.2.2.2.2.2.1), (467, r0.2.2.2.2.2.2.2.2.2.2.1), (468, r0.2.2.2.2.2.2.2.2.2.2.2.1), (469, r0.2.2.2.2.2.2.2.2.2.2.2.2.1), (470, r0.2.2.2.2.2.2.2.2.2.2.2.2.2.1), (471, r0.2.2.2.2.2.2.2.2.2.2.2.2.2.2.1), (472, r0.2.2.2.2.2.2.2.2.2.2.2.2.2.2.2.1), (490, r0.2.2.2.2.2.2.2.2.2.2.2.2.2.2.2.2.1), (491, r0.2.2.2.2.2.2.2.2.2.2.2.2.2.2.2.2.2)]) (q_ws E [])) := by
  rw [f_X3_passNext] at hf
  refine q_Ct_of ok_X3_passNext (Nat.le_of_ble_eq_true rfl) ?_ _ rfl rfl
  change q_J g m_X3_passNext d 0 0 _ [471, 472] _ 0 0 (q_kc (t, r, m, 499, 529, ext, rx, L) I E 0 [some (.ref 489), some (.ref 457), none, none, none, none] [] [] [])
  refine q_blf 5 [] (a := q_kc (t, r, m, 499, 529, ext, rx, L) I E 8 [some (.ref 489), some (.ref 457), some (.int ((I 402) 4)), none, none, none] [] [] []) (b := q_kc (t, r, m, 499, 529, ext, rx, L) I E 6 [some (.ref 489), some (.ref 457), some (.int ((I 402) 4)), none, none, none] [] [] []) (P := 0 < ((I 402) 4)) ok_X3_passNext rfl q_cn (fun h1 => ?_) (fun h1 => ?_)
  · have hf := q_ip h1 hf
    obtain ⟨u2, hu3, hf⟩ := q_bd hf
    refine q_blk 5 [] (c' := q_kc (t, r, m, 499, 529, ext, rx, L) I E 13 [some (.ref 489), some (.ref 457), some (.int ((I 402) 4)), none, none, none] [.int ((I 402) 4), .int ((I 457) 10), .ref 402] [] []) ok_X3_passNext rfl q_cn ?_
    refine q_krm (pos' := 14) ok_X3_passNext rfl (q_nz_ne hu3) rfl ?_
    obtain ⟨r4, hr4, hf⟩ := q_bd hf
    obtain ⟨u5, hu6, hf⟩ := q_bd hf
    refine q_kV (M2 := m_X6_stepWith) (As := [.int (((I 457) 10) - ((I 457) 10) / ((I 402) 4) * ((I 402) 4))]) (b := 402) (v2 := some (.ref (406 + r4))) ok_X3_passNext ok_X6_stepWith cv_X6_stepWith (ct_X6_stepWith_402 (d := 2) (Nat.le_refl _) hr4) rfl rfl (Or.inl rfl) rfl rfl rfl rfl (Nat.le_trans (Nat.le_of_ble_eq_true rfl) hd) (Nat.le_of_ble_eq_true rfl) (Nat.le_of_ble_eq_true rfl) (Nat.le_of_ble_eq_true rfl) (fun x hx => absurd hx List.not_mem_nil) (q_nmL0 _) (q_nmS0 _) rfl (pos' := 15) (st' := [.ref (406 + r4)]) (lI' := []) (lE' := []) rfl rfl rfl rfl ?_
    refine q_blk 2 [] (c' := q_kc (t, r, m, 499, 529, ext, rx, L) I E 17 [some (.ref 489), some (.ref 457), some (.int ((I 402) 4)), some (.ref (406 + r4)), none, none] [.ref (406 + r4)] [] []) ok_X3_passNext rfl q_cn ?_
    obtain ⟨r7, hr7, hf⟩ := q_bd hf
    refine q_kV (M2 := m_X10_hasTest) (As := []) (b := 406 + r4) (v2 := some (.int (q_bz r7))) ok_X3_passNext ok_X10_hasTest cv_X10_hasTest (ct_X10_hasTest_T406 (d := 1) (Nat.le_refl _) hr7) rfl rfl (Or.inl rfl) (q_stb (Or.inl rfl)) (q_sts (Or.inl rfl) (q_t20_lt hu6)) rfl rfl (Nat.le_trans (Nat.le_of_ble_eq_true rfl) hd) (Nat.le_of_ble_eq_true rfl) (Nat.le_of_ble_eq_true rfl) (Nat.le_of_ble_eq_true rfl) (fun x hx => absurd hx List.not_mem_nil) (q_nmL0 _) (q_nmS0 _) rfl (pos' := 18) (st' := [.int (q_bz r7)]) (lI' := []) (lE' := []) rfl rfl rfl rfl ?_
    refine q_blf 0 [] (a := q_kc (t, r, m, 499, 529, ext, rx, L) I E 29 [some (.ref 489), some (.ref 457), some (.int ((I 402) 4)), some (.ref (406 + r4)), none, none] [] [] []) (b := q_kc (t, r, m, 499, 529, ext, rx, L) I E 19 [some (.ref 489), some (.ref 457), some (.int ((I 402) 4)), some (.ref (406 + r4)), none, none] [] [] []) (P := (q_bz r7) = 0) ok_X3_passNext rfl q_cn (fun h8 => ?_) (fun h8 => ?_)
    · have hf := q_ip h8 hf
      refine q_blf 4 [] (a := q_kc (t, r, m, 499, 529, ext, rx, L) I E 42 [some (.ref 489), some (.ref 457), some (.int ((I 402) 4)), some (.ref (406 + r4)), some (.int (1 : Int32)), none] [] [] []) (b := q_kc (t, r, m, 499, 529, ext, rx, L) I E 35 [some (.ref 489), some (.ref 457), some (.int ((I 402) 4)), some (.ref (406 + r4)), some (.int (1 : Int32)), none] [] [] []) (P := (1 : Int32) = 0) ok_X3_passNext rfl q_cn (fun h9 => ?_) (fun h9 => ?_)
      · have hf := q_ip h9 hf
        refine q_blf 3 [] (a := q_kc (t, r, m, 499, 529, ext, rx, L) I E 54 [some (.ref 489), some (.ref 457), some (.int ((I 402) 4)), some (.ref (406 + r4)), some (.int (1 : Int32)), some (.int (0 : Int32))] [] [] []) (b := q_kc (t, r, m, 499, 529, ext, rx, L) I E 46 [some (.ref 489), some (.ref 457), some (.int ((I 402) 4)), some (.ref (406 + r4)), some (.int (1 : Int32)), some (.int (0 : Int32))] [] [] []) (P := (1 : Int32) = 0) ok_X3_passNext rfl q_cn (fun h10 => ?_) (fun h10 => ?_)
        · have hf := q_ip h10 hf
          refine q_blk 7 [] (c' := q_kc (t, r, m, 499, 529, ext, rx, L) I E 61 [some (.ref 489), some (.ref 457), some (.int ((I 402) 4)), some (.ref (406 + r4)), some (.int (1 : Int32)), some (.int (0 : Int32))] [.int (0 : Int32)] [(457, (q_up (I 457) 10 (((I 457) 10) + (1 : Int32))))] []) ok_X3_passNext rfl q_cn ?_
          cases hf
          exact q_kri ok_X3_passNext rfl rfl rfl (Nat.le_of_ble_eq_true rfl) (Nat.le_of_ble_eq_true rfl) ⟨rfl, q_hpe (q_fin [457, 459, 460, 461, 462, 463, 464, 465, 466, 467, 468, 469, 470, 471, 472, 490, 491] rfl) (q_fin [] rfl)⟩
        · have hf := q_in h10 hf
          refine q_blf 1 [] (a := q_kc (t, r, m, 499, 529, ext, rx, L) I E 54 [some (.ref 489), some (.ref 457), some (.int ((I 402) 4)), some (.ref (406 + r4)), some (.int (1 : Int32)), some (.int (0 : Int32))] [] [] []) (b := q_kc (t, r, m, 499, 529, ext, rx, L) I E 48 [some (.ref 489), some (.ref 457), some (.int ((I 402) 4)), some (.ref (406 + r4)), some (.int (1 : Int32)), some (.int (0 : Int32))] [] [] []) (P := ¬ (0 : Int32) = 0) ok_X3_passNext rfl q_cn (fun h11 => ?_) (fun h11 => ?_)
          · have hf := q_ip h11 hf
            refine q_blk 7 [] (c' := q_kc (t, r, m, 499, 529, ext, rx, L) I E 61 [some (.ref 489), some (.ref 457), some (.int ((I 402) 4)), some (.ref (406 + r4)), some (.int (1 : Int32)), some (.int (0 : Int32))] [.int (0 : Int32)] [(457, (q_up (I 457) 10 (((I 457) 10) + (1 : Int32))))] []) ok_X3_passNext rfl q_cn ?_
            cases hf
            exact q_kri ok_X3_passNext rfl rfl rfl (Nat.le_of_ble_eq_true rfl) (Nat.le_of_ble_eq_true rfl) ⟨rfl, q_hpe (q_fin [457, 459, 460, 461, 462, 463, 464, 465, 466, 467, 468, 469, 470, 471, 472, 490, 491] rfl) (q_fin [] rfl)⟩
          · have hf := q_in h11 hf
            refine q_blk 13 [] (c' := q_kc (t, r, m, 499, 529, ext, rx, L) I E 61 [some (.ref 489), some (.ref 457), some (.int ((I 402) 4)), some (.ref (406 + r4)), some (.int (1 : Int32)), some (.int (0 : Int32))] [.int (0 : Int32)] [(457, (q_up (q_up (I 457) 11 (((I 457) 11) + (1 : Int32))) 10 (((q_up (I 457) 11 (((I 457) 11) + (1 : Int32))) 10) + (1 : Int32))))] []) ok_X3_passNext rfl q_cn ?_
            cases hf
            exact q_kri ok_X3_passNext rfl rfl rfl (Nat.le_of_ble_eq_true rfl) (Nat.le_of_ble_eq_true rfl) ⟨rfl, q_hpe (q_fin [457, 459, 460, 461, 462, 463, 464, 465, 466, 467, 468, 469, 470, 471, 472, 490, 491] rfl) (q_fin [] rfl)⟩
      · have hf := q_in h9 hf
        refine q_blk 3 [] (c' := q_kc (t, r, m, 499, 529, ext, rx, L) I E 38 [some (.ref 489), some (.ref 457), some (.int ((I 402) 4)), some (.ref (406 + r4)), some (.int (1 : Int32)), none] [.ref (406 + r4), .ref 457, .ref 489] [] []) ok_X3_passNext rfl q_cn ?_
        refine q_less (ls' := [none, some (.ref 457), none, none, some (.int (1 : Int32)), none]) (q_sb1 (q_sb2 (q_sb1 (q_sb1 (q_sb2 (q_sb1 q_sb0)))))) ?_
        obtain ⟨r12, hr12, hf⟩ := q_bd hf
        refine q_kV (M2 := m_X3_perform) (As := [.ref 457, .ref (406 + r4)]) (b := 489) (v2 := some (.int (q_bz r12.1))) ok_X3_passNext ok_X3_perform cv_X3_perform (ct_X3_perform_489_457_T406 (d := 5) (Nat.le_refl _) hr12) rfl rfl (Or.inl rfl) rfl rfl rfl rfl (Nat.le_trans (Nat.le_of_ble_eq_true rfl) hd) (Nat.le_of_ble_eq_true rfl) (Nat.le_of_ble_eq_true rfl) (Nat.le_of_ble_eq_true rfl) (fun x hx => hx) rfl rfl rfl (pos' := 39) (st' := [.int (q_bz r12.1)]) (lI' := [(457, r12.2.1), (459, r12.2.2.1), (460, r12.2.2.2.1), (461, r12.2.2.2.2.1), (462, r12.2.2.2.2.2.1), (463, r12.2.2.2.2.2.2.1), (464, r12.2.2.2.2.2.2.2.1), (465, r12.2.2.2.2.2.2.2.2.1), (466, r12.2.2.2.2.2.2.2.2.2.1), (467, r12.2.2.2.2.2.2.2.2.2.2.1), (468, r12.2.2.2.2.2.2.2.2.2.2.2.1), (469, r12.2.2.2.2.2.2.2.2.2.2.2.2.1), (470, r12.2.2.2.2.2.2.2.2.2.2.2.2.2.1), (471, r12.2.2.2.2.2.2.2.2.2.2.2.2.2.2.1), (472, r12.2.2.2.2.2.2.2.2.2.2.2.2.2.2.2.1), (490, r12.2.2.2.2.2.2.2.2.2.2.2.2.2.2.2.2.1), (491, r12.2.2.2.2.2.2.2.2.2.2.2.2.2.2.2.2.2)]) (lE' := []) rfl rfl rfl rfl ?_
        refine q_blf 0 [] (a := q_kc (t, r, m, 499, 529, ext, rx, L) I E 42 [none, some (.ref 457), none, none, some (.int (1 : Int32)), none] [] [(457, r12.2.1), (459, r12.2.2.1), (460, r12.2.2.2.1), (461, r12.2.2.2.2.1), (462, r12.2.2.2.2.2.1), (463, r12.2.2.2.2.2.2.1), (464, r12.2.2.2.2.2.2.2.1), (465, r12.2.2.2.2.2.2.2.2.1), (466, r12.2.2.2.2.2.2.2.2.2.1), (467, r12.2.2.2.2.2.2.2.2.2.2.1), (468, r12.2.2.2.2.2.2.2.2.2.2.2.1), (469, r12.2.2.2.2.2.2.2.2.2.2.2.2.1), (470, r12.2.2.2.2.2.2.2.2.2.2.2.2.2.1), (471, r12.2.2.2.2.2.2.2.2.2.2.2.2.2.2.1), (472, r12.2.2.2.2.2.2.2.2.2.2.2.2.2.2.2.1), (490, r12.2.2.2.2.2.2.2.2.2.2.2.2.2.2.2.2.1), (491, r12.2.2.2.2.2.2.2.2.2.2.2.2.2.2.2.2.2)] []) (b := q_kc (t, r, m, 499, 529, ext, rx, L) I E 40 [none, some (.ref 457), none, none, some (.int (1 : Int32)), none] [] [(457, r12.2.1), (459, r12.2.2.1), (460, r12.2.2.2.1), (461, r12.2.2.2.2.1), (462, r12.2.2.2.2.2.1), (463, r12.2.2.2.2.2.2.1), (464, r12.2.2.2.2.2.2.2.1), (465, r12.2.2.2.2.2.2.2.2.1), (466, r12.2.2.2.2.2.2.2.2.2.1), (467, r12.2.2.2.2.2.2.2.2.2.2.1), (468, r12.2.2.2.2.2.2.2.2.2.2.2.1), (469, r12.2.2.2.2.2.2.2.2.2.2.2.2.1), (470, r12.2.2.2.2.2.2.2.2.2.2.2.2.2.1), (471, r12.2.2.2.2.2.2.2.2.2.2.2.2.2.2.1), (472, r12.2.2.2.2.2.2.2.2.2.2.2.2.2.2.2.1), (490, r12.2.2.2.2.2.2.2.2.2.2.2.2.2.2.2.2.1), (491, r12.2.2.2.2.2.2.2.2.2.2.2.2.2.2.2.2.2)] []) (P := (q_bz r12.1) = 0) ok_X3_passNext rfl q_cn (fun h13 => ?_) (fun h13 => ?_)
        · have hf := q_ip h13 hf
          refine q_blf 3 [] (a := q_kc (t, r, m, 499, 529, ext, rx, L) I E 54 [none, some (.ref 457), none, none, some (.int (1 : Int32)), some (.int (0 : Int32))] [] [(457, r12.2.1), (459, r12.2.2.1), (460, r12.2.2.2.1), (461, r12.2.2.2.2.1), (462, r12.2.2.2.2.2.1), (463, r12.2.2.2.2.2.2.1), (464, r12.2.2.2.2.2.2.2.1), (465, r12.2.2.2.2.2.2.2.2.1), (466, r12.2.2.2.2.2.2.2.2.2.1), (467, r12.2.2.2.2.2.2.2.2.2.2.1), (468, r12.2.2.2.2.2.2.2.2.2.2.2.1), (469, r12.2.2.2.2.2.2.2.2.2.2.2.2.1), (470, r12.2.2.2.2.2.2.2.2.2.2.2.2.2.1), (471, r12.2.2.2.2.2.2.2.2.2.2.2.2.2.2.1), (472, r12.2.2.2.2.2.2.2.2.2.2.2.2.2.2.2.1), (490, r12.2.2.2.2.2.2.2.2.2.2.2.2.2.2.2.2.1), (491, r12.2.2.2.2.2.2.2.2.2.2.2.2.2.2.2.2.2)] []) (b := q_kc (t, r, m, 499, 529, ext, rx, L) I E 46 [none, some (.ref 457), none, none, some (.int (1 : Int32)), some (.int (0 : Int32))] [] [(457, r12.2.1), (459, r12.2.2.1), (460, r12.2.2.2.1), (461, r12.2.2.2.2.1), (462, r12.2.2.2.2.2.1), (463, r12.2.2.2.2.2.2.1), (464, r12.2.2.2.2.2.2.2.1), (465, r12.2.2.2.2.2.2.2.2.1), (466, r12.2.2.2.2.2.2.2.2.2.1), (467, r12.2.2.2.2.2.2.2.2.2.2.1), (468, r12.2.2.2.2.2.2.2.2.2.2.2.1), (469, r12.2.2.2.2.2.2.2.2.2.2.2.2.1), (470, r12.2.2.2.2.2.2.2.2.2.2.2.2.2.1), (471, r12.2.2.2.2.2.2.2.2.2.2.2.2.2.2.1), (472, r12.2.2.2.2.2.2.2.2.2.2.2.2.2.2.2.1), (490, r12.2.2.2.2.2.2.2.2.2.2.2.2.2.2.2.2.1), (491, r12.2.2.2.2.2.2.2.2.2.2.2.2.2.2.2.2.2)] []) (P := (1 : Int32) = 0) ok_X3_passNext rfl q_cn (fun h14 => ?_) (fun h14 => ?_)
          · have hf := q_ip h14 hf
            refine q_blk 7 [] (c' := q_kc (t, r, m, 499, 529, ext, rx, L) I E 61 [none, some (.ref 457), none, none, some (.int (1 : Int32)), some (.int (0 : Int32))] [.int (0 : Int32)] [(457, (q_up r12.2.1 10 ((r12.2.1 10) + (1 : Int32)))), (459, r12.2.2.1), (460, r12.2.2.2.1), (461, r12.2.2.2.2.1), (462, r12.2.2.2.2.2.1), (463, r12.2.2.2.2.2.2.1), (464, r12.2.2.2.2.2.2.2.1), (465, r12.2.2.2.2.2.2.2.2.1), (466, r12.2.2.2.2.2.2.2.2.2.1), (467, r12.2.2.2.2.2.2.2.2.2.2.1), (468, r12.2.2.2.2.2.2.2.2.2.2.2.1), (469, r12.2.2.2.2.2.2.2.2.2.2.2.2.1), (470, r12.2.2.2.2.2.2.2.2.2.2.2.2.2.1), (471, r12.2.2.2.2.2.2.2.2.2.2.2.2.2.2.1), (472, r12.2.2.2.2.2.2.2.2.2.2.2.2.2.2.2.1), (490, r12.2.2.2.2.2.2.2.2.2.2.2.2.2.2.2.2.1), (491, r12.2.2.2.2.2.2.2.2.2.2.2.2.2.2.2.2.2)] []) ok_X3_passNext rfl q_cn ?_
            cases hf
            exact q_kri ok_X3_passNext rfl rfl rfl (Nat.le_of_ble_eq_true rfl) (Nat.le_of_ble_eq_true rfl) ⟨rfl, q_hpe (q_fin [457, 459, 460, 461, 462, 463, 464, 465, 466, 467, 468, 469, 470, 471, 472, 490, 491] rfl) (q_fin [] rfl)⟩
          · have hf := q_in h14 hf
            refine q_blf 1 [] (a := q_kc (t, r, m, 499, 529, ext, rx, L) I E 54 [none, some (.ref 457), none, none, some (.int (1 : Int32)), some (.int (0 : Int32))] [] [(457, r12.2.1), (459, r12.2.2.1), (460, r12.2.2.2.1), (461, r12.2.2.2.2.1), (462, r12.2.2.2.2.2.1), (463, r12.2.2.2.2.2.2.1), (464, r12.2.2.2.2.2.2.2.1), (465, r12.2.2.2.2.2.2.2.2.1), (466, r12.2.2.2.2.2.2.2.2.2.1), (467, r12.2.2.2.2.2.2.2.2.2.2.1), (468, r12.2.2.2.2.2.2.2.2.2.2.2.1), (469, r12.2.2.2.2.2.2.2.2.2.2.2.2.1), (470, r12.2.2.2.2.2.2.2.2.2.2.2.2.2.1), (471, r12.2.2.2.2.2.2.2.2.2.2.2.2.2.2.1), (472, r12.2.2.2.2.2.2.2.2.2.2.2.2.2.2.2.1), (490, r12.2.2.2.2.2.2.2.2.2.2.2.2.2.2.2.2.1), (491, r12.2.2.2.2.2.2.2.2.2.2.2.2.2.2.2.2.2)] []) (b := q_kc (t, r, m, 499, 529, ext, rx, L) I E 48 [none, some (.ref 457), none, none, some (.int (1 : Int32)), some (.int (0 : Int32))] [] [(457, r12.2.1), (459, r12.2.2.1), (460, r12.2.2.2.1), (461, r12.2.2.2.2.1), (462, r12.2.2.2.2.2.1), (463, r12.2.2.2.2.2.2.1), (464, r12.2.2.2.2.2.2.2.1), (465, r12.2.2.2.2.2.2.2.2.1), (466, r12.2.2.2.2.2.2.2.2.2.1), (467, r12.2.2.2.2.2.2.2.2.2.2.1), (468, r12.2.2.2.2.2.2.2.2.2.2.2.1), (469, r12.2.2.2.2.2.2.2.2.2.2.2.2.1), (470, r12.2.2.2.2.2.2.2.2.2.2.2.2.2.1), (471, r12.2.2.2.2.2.2.2.2.2.2.2.2.2.2.1), (472, r12.2.2.2.2.2.2.2.2.2.2.2.2.2.2.2.1), (490, r12.2.2.2.2.2.2.2.2.2.2.2.2.2.2.2.2.1), (491, r12.2.2.2.2.2.2.2.2.2.2.2.2.2.2.2.2.2)] []) (P := ¬ (0 : Int32) = 0) ok_X3_passNext rfl q_cn (fun h15 => ?_) (fun h15 => ?_)
            · have hf := q_ip h15 hf
              refine q_blk 7 [] (c' := q_kc (t, r, m, 499, 529, ext, rx, L) I E 61 [none, some (.ref 457), none, none, some (.int (1 : Int32)), some (.int (0 : Int32))] [.int (0 : Int32)] [(457, (q_up r12.2.1 10 ((r12.2.1 10) + (1 : Int32)))), (459, r12.2.2.1), (460, r12.2.2.2.1), (461, r12.2.2.2.2.1), (462, r12.2.2.2.2.2.1), (463, r12.2.2.2.2.2.2.1), (464, r12.2.2.2.2.2.2.2.1), (465, r12.2.2.2.2.2.2.2.2.1), (466, r12.2.2.2.2.2.2.2.2.2.1), (467, r12.2.2.2.2.2.2.2.2.2.2.1), (468, r12.2.2.2.2.2.2.2.2.2.2.2.1), (469, r12.2.2.2.2.2.2.2.2.2.2.2.2.1), (470, r12.2.2.2.2.2.2.2.2.2.2.2.2.2.1), (471, r12.2.2.2.2.2.2.2.2.2.2.2.2.2.2.1), (472, r12.2.2.2.2.2.2.2.2.2.2.2.2.2.2.2.1), (490, r12.2.2.2.2.2.2.2.2.2.2.2.2.2.2.2.2.1), (491, r12.2.2.2.2.2.2.2.2.2.2.2.2.2.2.2.2.2)] []) ok_X3_passNext rfl q_cn ?_
              cases hf
              exact q_kri ok_X3_passNext rfl rfl rfl (Nat.le_of_ble_eq_true rfl) (Nat.le_of_ble_eq_true rfl) ⟨rfl, q_hpe (q_fin [457, 459, 460, 461, 462, 463, 464, 465, 466, 467, 468, 469, 470, 471, 472, 490, 491] rfl) (q_fin [] rfl)⟩
            · have hf := q_in h15 hf
              refine q_blk 13 [] (c' := q_kc (t, r, m, 499, 529, ext, rx, L) I E 61 [none, some (.ref 457), none, none, some (.int (1 : Int32)), some (.int (0 : Int32))] [.int (0 : Int32)] [(457, (q_up (q_up r12.2.1 11 ((r12.2.1 11) + (1 : Int32))) 10 (((q_up r12.2.1 11 ((r12.2.1 11) + (1 : Int32))) 10) + (1 : Int32)))), (459, r12.2.2.1), (460, r12.2.2.2.1), (461, r12.2.2.2.2.1), (462, r12.2.2.2.2.2.1), (463, r12.2.2.2.2.2.2.1), (464, r12.2.2.2.2.2.2.2.1), (465, r12.2.2.2.2.2.2.2.2.1), (466, r12.2.2.2.2.2.2.2.2.2.1), (467, r12.2.2.2.2.2.2.2.2.2.2.1), (468, r12.2.2.2.2.2.2.2.2.2.2.2.1), (469, r12.2.2.2.2.2.2.2.2.2.2.2.2.1), (470, r12.2.2.2.2.2.2.2.2.2.2.2.2.2.1), (471, r12.2.2.2.2.2.2.2.2.2.2.2.2.2.2.1), (472, r12.2.2.2.2.2.2.2.2.2.2.2.2.2.2.2.1), (490, r12.2.2.2.2.2.2.2.2.2.2.2.2.2.2.2.2.1), (491, r12.2.2.2.2.2.2.2.2.2.2.2.2.2.2.2.2.2)] []) ok_X3_passNext rfl q_cn ?_
              cases hf
              exact q_kri ok_X3_passNext rfl rfl rfl (Nat.le_of_ble_eq_true rfl) (Nat.le_of_ble_eq_true rfl) ⟨rfl, q_hpe (q_fin [457, 459, 460, 461, 462, 463, 464, 465, 466, 467, 468, 469, 470, 471, 472, 490, 491] rfl) (q_fin [] rfl)⟩
        · have hf := q_in h13 hf
          refine q_blf 4 [] (a := q_kc (t, r, m, 499, 529, ext, rx, L) I E 54 [none, some (.ref 457), none, none, some (.int (1 : Int32)), some (.int (1 : Int32))] [] [(457, r12.2.1), (459, r12.2.2.1), (460, r12.2.2.2.1), (461, r12.2.2.2.2.1), (462, r12.2.2.2.2.2.1), (463, r12.2.2.2.2.2.2.1), (464, r12.2.2.2.2.2.2.2.1), (465, r12.2.2.2.2.2.2.2.2.1), (466, r12.2.2.2.2.2.2.2.2.2.1), (467, r12.2.2.2.2.2.2.2.2.2.2.1), (468, r12.2.2.2.2.2.2.2.2.2.2.2.1), (469, r12.2.2.2.2.2.2.2.2.2.2.2.2.1), (470, r12.2.2.2.2.2.2.2.2.2.2.2.2.2.1), (471, r12.2.2.2.2.2.2.2.2.2.2.2.2.2.2.1), (472, r12.2.2.2.2.2.2.2.2.2.2.2.2.2.2.2.1), (490, r12.2.2.2.2.2.2.2.2.2.2.2.2.2.2.2.2.1), (491, r12.2.2.2.2.2.2.2.2.2.2.2.2.2.2.2.2.2)] []) (b := q_kc (t, r, m, 499, 529, ext, rx, L) I E 46 [none, some (.ref 457), none, none, some (.int (1 : Int32)), some (.int (1 : Int32))] [] [(457, r12.2.1), (459, r12.2.2.1), (460, r12.2.2.2.1), (461, r12.2.2.2.2.1), (462, r12.2.2.2.2.2.1), (463, r12.2.2.2.2.2.2.1), (464, r12.2.2.2.2.2.2.2.1), (465, r12.2.2.2.2.2.2.2.2.1), (466, r12.2.2.2.2.2.2.2.2.2.1), (467, r12.2.2.2.2.2.2.2.2.2.2.1), (468, r12.2.2.2.2.2.2.2.2.2.2.2.1), (469, r12.2.2.2.2.2.2.2.2.2.2.2.2.1), (470, r12.2.2.2.2.2.2.2.2.2.2.2.2.2.1), (471, r12.2.2.2.2.2.2.2.2.2.2.2.2.2.2.1), (472, r12.2.2.2.2.2.2.2.2.2.2.2.2.2.2.2.1), (490, r12.2.2.2.2.2.2.2.2.2.2.2.2.2.2.2.2.1), (491, r12.2.2.2.2.2.2.2.2.2.2.2.2.2.2.2.2.2)] []) (P := (1 : Int32) = 0) ok_X3_passNext rfl q_cn (fun h16 => ?_) (fun h16 => ?_)
          · have hf := q_ip h16 hf
            refine q_blk 7 [] (c' := q_kc (t, r, m, 499, 529, ext, rx, L) I E 61 [none, some (.ref 457), none, none, some (.int (1 : Int32)), some (.int (1 : Int32))] [.int (1 : Int32)] [(457, (q_up r12.2.1 10 ((r12.2.1 10) + (1 : Int32)))), (459, r12.2.2.1), (460, r12.2.2.2.1), (461, r12.2.2.2.2.1), (462, r12.2.2.2.2.2.1), (463, r12.2.2.2.2.2.2.1), (464, r12.2.2.2.2.2.2.2.1), (465, r12.2.2.2.2.2.2.2.2.1), (466, r12.2.2.2.2.2.2.2.2.2.1), (467, r12.2.2.2.2.2.2.2.2.2.2.1), (468, r12.2.2.2.2.2.2.2.2.2.2.2.1), (469, r12.2.2.2.2.2.2.2.2.2.2.2.2.1), (470, r12.2.2.2.2.2.2.2.2.2.2.2.2.2.1), (471, r12.2.2.2.2.2.2.2.2.2.2.2.2.2.2.1), (472, r12.2.2.2.2.2.2.2.2.2.2.2.2.2.2.2.1), (490, r12.2.2.2.2.2.2.2.2.2.2.2.2.2.2.2.2.1), (491, r12.2.2.2.2.2.2.2.2.2.2.2.2.2.2.2.2.2)] []) ok_X3_passNext rfl q_cn ?_
            cases hf
            exact q_kri ok_X3_passNext rfl rfl rfl (Nat.le_of_ble_eq_true rfl) (Nat.le_of_ble_eq_true rfl) ⟨rfl, q_hpe (q_fin [457, 459, 460, 461, 462, 463, 464, 465, 466, 467, 468, 469, 470, 471, 472, 490, 491] rfl) (q_fin [] rfl)⟩
          · have hf := q_in h16 hf
            refine q_blf 1 [] (a := q_kc (t, r, m, 499, 529, ext, rx, L) I E 54 [none, some (.ref 457), none, none, some (.int (1 : Int32)), some (.int (1 : Int32))] [] [(457, r12.2.1), (459, r12.2.2.1), (460, r12.2.2.2.1), (461, r12.2.2.2.2.1), (462, r12.2.2.2.2.2.1), (463, r12.2.2.2.2.2.2.1), (464, r12.2.2.2.2.2.2.2.1), (465, r12.2.2.2.2.2.2.2.2.1), (466, r12.2.2.2.2.2.2.2.2.2.1), (467, r12.2.2.2.2.2.2.2.2.2.2.1), (468, r12.2.2.2.2.2.2.2.2.2.2.2.1), (469, r12.2.2.2.2.2.2.2.2.2.2.2.2.1), (470, r12.2.2.2.2.2.2.2.2.2.2.2.2.2.1), (471, r12.2.2.2.2.2.2.2.2.2.2.2.2.2.2.1), (472, r12.2.2.2.2.2.2.2.2.2.2.2.2.2.2.2.1), (490, r12.2.2.2.2.2.2.2.2.2.2.2.2.2.2.2.2.1), (491, r12.2.2.2.2.2.2.2.2.2.2.2.2.2.2.2.2.2)] []) (b := q_kc (t, r, m, 499, 529, ext, rx, L) I E 48 [none, some (.ref 457), none, none, some (.int (1 : Int32)), some (.int (1 : Int32))] [] [(457, r12.2.1), (459, r12.2.2.1), (460, r12.2.2.2.1), (461, r12.2.2.2.2.1), (462, r12.2.2.2.2.2.1), (463, r12.2.2.2.2.2.2.1), (464, r12.2.2.2.2.2.2.2.1), (465, r12.2.2.2.2.2.2.2.2.1), (466, r12.2.2.2.2.2.2.2.2.2.1), (467, r12.2.2.2.2.2.2.2.2.2.2.1), (468, r12.2.2.2.2.2.2.2.2.2.2.2.1), (469, r12.2.2.2.2.2.2.2.2.2.2.2.2.1), (470, r12.2.2.2.2.2.2.2.2.2.2.2.2.2.1), (471, r12.2.2.2.2.2.2.2.2.2.2.2.2.2.2.1), (472, r12.2.2.2.2.2.2.2.2.2.2.2.2.2.2.2.1), (490, r12.2.2.2.2.2.2.2.2.2.2.2.2.2.2.2.2.1), (491, r12.2.2.2.2.2.2.2.2.2.2.2.2.2.2.2.2.2)] []) (P := ¬ (1 : Int32) = 0) ok_X3_passNext rfl q_cn (fun h17 => ?_) (fun h17 => ?_)
            · have hf := q_ip h17 hf
              refine q_blk 7 [] (c' := q_kc (t, r, m, 499, 529, ext, rx, L) I E 61 [none, some (.ref 457), none, none, some (.int (1 : Int32)), some (.int (1 : Int32))] [.int (1 : Int32)] [(457, (q_up r12.2.1 10 ((r12.2.1 10) + (1 : Int32)))), (459, r12.2.2.1), (460, r12.2.2.2.1), (461, r12.2.2.2.2.1), (462, r12.2.2.2.2.2.1), (463, r12.2.2.2.2.2.2.1), (464, r12.2.2.2.2.2.2.2.1), (465, r12.2.2.2.2.2.2.2.2.1), (466, r12.2.2.2.2.2.2.2.2.2.1), (467, r12.2.2.2.2.2.2.2.2.2.2.1), (468, r12.2.2.2.2.2.2.2.2.2.2.2.1), (469, r12.2.2.2.2.2.2.2.2.2.2.2.2.1), (470, r12.2.2.2.2.2.2.2.2.2.2.2.2.2.1), (471, r12.2.2.2.2.2.2.2.2.2.2.2.2.2.2.1), (472, r12.2.2.2.2.2.2.2.2.2.2.2.2.2.2.2.1), (490, r12.2.2.2.2.2.2.2.2.2.2.2.2.2.2.2.2.1), (491, r12.2.2.2.2.2.2.2.2.2.2.2.2.2.2.2.2.2)] []) ok_X3_passNext rfl q_cn ?_
              cases hf
              exact q_kri ok_X3_passNext rfl rfl rfl (Nat.le_of_ble_eq_true rfl) (Nat.le_of_ble_eq_true rfl) ⟨rfl, q_hpe (q_fin [457, 459, 460, 461, 462, 463, 464, 465, 466, 467, 468, 469, 470, 471, 472, 490, 491] rfl) (q_fin [] rfl)⟩
            · have hf := q_in h17 hf
              refine q_blk 13 [] (c' := q_kc (t, r, m, 499, 529, ext, rx, L) I E 61 [none, some (.ref 457), none, none, some (.int (1 : Int32)), some (.int (1 : Int32))] [.int (1 : Int32)] [(457, (q_up (q_up r12.2.1 11 ((r12.2.1 11) + (1 : Int32))) 10 (((q_up r12.2.1 11 ((r12.2.1 11) + (1 : Int32))) 10) + (1 : Int32)))), (459, r12.2.2.1), (460, r12.2.2.2.1), (461, r12.2.2.2.2.1), (462, r12.2.2.2.2.2.1), (463, r12.2.2.2.2.2.2.1), (464, r12.2.2.2.2.2.2.2.1), (465, r12.2.2.2.2.2.2.2.2.1), (466, r12.2.2.2.2.2.2.2.2.2.1), (467, r12.2.2.2.2.2.2.2.2.2.2.1), (468, r12.2.2.2.2.2.2.2.2.2.2.2.1), (469, r12.2.2.2.2.2.2.2.2.2.2.2.2.1), (470, r12.2.2.2.2.2.2.2.2.2.2.2.2.2.1), (471, r12.2.2.2.2.2.2.2.2.2.2.2.2.2.2.1), (472, r12.2.2.2.2.2.2.2.2.2.2.2.2.2.2.2.1), (490, r12.2.2.2.2.2.2.2.2.2.2.2.2.2.2.2.2.1), (491, r12.2.2.2.2.2.2.2.2.2.2.2.2.2.2.2.2.2)] []) ok_X3_passNext rfl q_cn ?_
              cases hf
              exact q_kri ok_X3_passNext rfl rfl rfl (Nat.le_of_ble_eq_true rfl) (Nat.le_of_ble_eq_true rfl) ⟨rfl, q_hpe (q_fin [457, 459, 460, 461, 462, 463, 464, 465, 466, 467, 468, 469, 470, 471, 472, 490, 491] rfl) (q_fin [] rfl)⟩
    · have hf := q_in h8 hf
      refine q_blk 4 [] (c' := q_kc (t, r, m, 499, 529, ext, rx, L) I E 23 [some (.ref 489), some (.ref 457), some (.int ((I 402) 4)), some (.ref (406 + r4)), none, none] [.ref (406 + r4), .ref 457, .ref 490] [] []) ok_X3_passNext rfl q_cn ?_
      refine q_kgT (pos' := 24) (x := ((fun j => I (406 + j)) r4 6)) ok_X3_passNext rfl (Or.inl rfl) (q_t20_lt hu6) rfl rfl (q_wsT0 (q_t20_lt hu6) rfl) rfl ?_
      refine q_blk 1 [] (c' := q_kc (t, r, m, 499, 529, ext, rx, L) I E 25 [some (.ref 489), some (.ref 457), some (.int ((I 402) 4)), some (.ref (406 + r4)), none, none] [.ref (406 + r4), .int ((fun j => I (406 + j)) r4 6), .ref 457, .ref 490] [] []) ok_X3_passNext rfl q_cn ?_
      refine q_kgT (pos' := 26) (x := ((fun j => I (406 + j)) r4 7)) ok_X3_passNext rfl (Or.inl rfl) (q_t20_lt hu6) rfl rfl (q_wsT0 (q_t20_lt hu6) rfl) rfl ?_
      obtain ⟨r18, hr18, hf⟩ := q_bd hf
      refine q_kV (M2 := m_X8_reckon) (As := [.ref 457, .int ((fun j => I (406 + j)) r4 6), .int ((fun j => I (406 + j)) r4 7)]) (b := 490) (v2 := some (.int r18.1)) ok_X3_passNext ok_X8_reckon cv_X8_reckon (ct_X8_reckon_490_457 (d := 4) (Nat.le_refl _) hr18) rfl rfl (Or.inl rfl) rfl rfl rfl rfl (Nat.le_trans (Nat.le_of_ble_eq_true rfl) hd) (Nat.le_of_ble_eq_true rfl) (Nat.le_of_ble_eq_true rfl) (Nat.le_of_ble_eq_true rfl) (fun x hx => absurd hx List.not_mem_nil) (q_nmL0 _) (q_nmS0 _) rfl (pos' := 27) (st' := [.int r18.1]) (lI' := [(490, r18.2.1), (491, r18.2.2)]) (lE' := []) rfl rfl rfl rfl ?_
      refine q_blf 1 [] (a := q_kc (t, r, m, 499, 529, ext, rx, L) I E 31 [some (.ref 489), some (.ref 457), some (.int ((I 402) 4)), some (.ref (406 + r4)), none, none] [] [(490, r18.2.1), (491, r18.2.2)] []) (b := q_kc (t, r, m, 499, 529, ext, rx, L) I E 29 [some (.ref 489), some (.ref 457), some (.int ((I 402) 4)), some (.ref (406 + r4)), none, none] [] [(490, r18.2.1), (491, r18.2.2)] []) (P := ¬ r18.1 = (1 : Int32)) ok_X3_passNext rfl q_cn (fun h19 => ?_) (fun h19 => ?_)
      · have hf := q_ip h19 hf
        refine q_blf 3 [] (a := q_kc (t, r, m, 499, 529, ext, rx, L) I E 42 [some (.ref 489), some (.ref 457), some (.int ((I 402) 4)), some (.ref (406 + r4)), some (.int (0 : Int32)), none] [] [(490, r18.2.1), (491, r18.2.2)] []) (b := q_kc (t, r, m, 499, 529, ext, rx, L) I E 35 [some (.ref 489), some (.ref 457), some (.int ((I 402) 4)), some (.ref (406 + r4)), some (.int (0 : Int32)), none] [] [(490, r18.2.1), (491, r18.2.2)] []) (P := (0 : Int32) = 0) ok_X3_passNext rfl q_cn (fun h20 => ?_) (fun h20 => ?_)
        · have hf := q_ip h20 hf
          refine q_blf 3 [] (a := q_kc (t, r, m, 499, 529, ext, rx, L) I E 54 [some (.ref 489), some (.ref 457), some (.int ((I 402) 4)), some (.ref (406 + r4)), some (.int (0 : Int32)), some (.int (0 : Int32))] [] [(490, r18.2.1), (491, r18.2.2)] []) (b := q_kc (t, r, m, 499, 529, ext, rx, L) I E 46 [some (.ref 489), some (.ref 457), some (.int ((I 402) 4)), some (.ref (406 + r4)), some (.int (0 : Int32)), some (.int (0 : Int32))] [] [(490, r18.2.1), (491, r18.2.2)] []) (P := (0 : Int32) = 0) ok_X3_passNext rfl q_cn (fun h21 => ?_) (fun h21 => ?_)
          · have hf := q_ip h21 hf
            refine q_blk 7 [] (c' := q_kc (t, r, m, 499, 529, ext, rx, L) I E 61 [some (.ref 489), some (.ref 457), some (.int ((I 402) 4)), some (.ref (406 + r4)), some (.int (0 : Int32)), some (.int (0 : Int32))] [.int (0 : Int32)] [(457, (q_up (I 457) 10 (((I 457) 10) + (1 : Int32)))), (490, r18.2.1), (491, r18.2.2)] []) ok_X3_passNext rfl q_cn ?_
            cases hf
            exact q_kri ok_X3_passNext rfl rfl rfl (Nat.le_of_ble_eq_true rfl) (Nat.le_of_ble_eq_true rfl) ⟨rfl, q_hpe (q_fin [457, 459, 460, 461, 462, 463, 464, 465, 466, 467, 468, 469, 470, 471, 472, 490, 491] rfl) (q_fin [] rfl)⟩
          · have hf := q_in h21 hf
            refine q_blf 1 [] (a := q_kc (t, r, m, 499, 529, ext, rx, L) I E 54 [some (.ref 489), some (.ref 457), some (.int ((I 402) 4)), some (.ref (406 + r4)), some (.int (0 : Int32)), some (.int (0 : Int32))] [] [(490, r18.2.1), (491, r18.2.2)] []) (b := q_kc (t, r, m, 499, 529, ext, rx, L) I E 48 [some (.ref 489), some (.ref 457), some (.int ((I 402) 4)), some (.ref (406 + r4)), some (.int (0 : Int32)), some (.int (0 : Int32))] [] [(490, r18.2.1), (491, r18.2.2)] []) (P := ¬ (0 : Int32) = 0) ok_X3_passNext rfl q_cn (fun h22 => ?_) (fun h22 => ?_)
            · have hf := q_ip h22 hf
              refine q_blk 7 [] (c' := q_kc (t, r, m, 499, 529, ext, rx, L) I E 61 [some (.ref 489), some (.ref 457), some (.int ((I 402) 4)), some (.ref (406 + r4)), some (.int (0 : Int32)), some (.int (0 : Int32))] [.int (0 : Int32)] [(457, (q_up (I 457) 10 (((I 457) 10) + (1 : Int32)))), (490, r18.2.1), (491, r18.2.2)] []) ok_X3_passNext rfl q_cn ?_
              cases hf
              exact q_kri ok_X3_passNext rfl rfl rfl (Nat.le_of_ble_eq_true rfl) (Nat.le_of_ble_eq_true rfl) ⟨rfl, q_hpe (q_fin [457, 459, 460, 461, 462, 463, 464, 465, 466, 467, 468, 469, 470, 471, 472, 490, 491] rfl) (q_fin [] rfl)⟩
            · have hf := q_in h22 hf
              refine q_blk 13 [] (c' := q_kc (t, r, m, 499, 529, ext, rx, L) I E 61 [some (.ref 489), some (.ref 457), some (.int ((I 402) 4)), some (.ref (406 + r4)), some (.int (0 : Int32)), some (.int (0 : Int32))] [.int (0 : Int32)] [(457, (q_up (q_up (I 457) 11 (((I 457) 11) + (1 : Int32))) 10 (((q_up (I 457) 11 (((I 457) 11) + (1 : Int32))) 10) + (1 : Int32)))), (490, r18.2.1), (491, r18.2.2)] []) ok_X3_passNext rfl q_cn ?_
              cases hf
              exact q_kri ok_X3_passNext rfl rfl rfl (Nat.le_of_ble_eq_true rfl) (Nat.le_of_ble_eq_true rfl) ⟨rfl, q_hpe (q_fin [457, 459, 460, 461, 462, 463, 464, 465, 466, 467, 468, 469, 470, 471, 472, 490, 491] rfl) (q_fin [] rfl)⟩
        · have hf := q_in h20 hf
          refine q_blk 3 [] (c' := q_kc (t, r, m, 499, 529, ext, rx, L) I E 38 [some (.ref 489), some (.ref 457), some (.int ((I 402) 4)), some (.ref (406 + r4)), some (.int (0 : Int32)), none] [.ref (406 + r4), .ref 457, .ref 489] [(490, r18.2.1), (491, r18.2.2)] []) ok_X3_passNext rfl q_cn ?_
          refine q_less (ls' := [none, some (.ref 457), none, none, some (.int (0 : Int32)), none]) (q_sb1 (q_sb2 (q_sb1 (q_sb1 (q_sb2 (q_sb1 q_sb0)))))) ?_
          obtain ⟨r23, hr23, hf⟩ := q_bd hf
          refine q_kV (M2 := m_X3_perform) (As := [.ref 457, .ref (406 + r4)]) (b := 489) (v2 := some (.int (q_bz r23.1))) ok_X3_passNext ok_X3_perform cv_X3_perform (ct_X3_perform_489_457_T406 (d := 5) (Nat.le_refl _) hr23) rfl rfl (Or.inl rfl) rfl rfl rfl rfl (Nat.le_trans (Nat.le_of_ble_eq_true rfl) hd) (Nat.le_of_ble_eq_true rfl) (Nat.le_of_ble_eq_true rfl) (Nat.le_of_ble_eq_true rfl) (fun x hx => hx) rfl rfl rfl (pos' := 39) (st' := [.int (q_bz r23.1)]) (lI' := [(457, r23.2.1), (459, r23.2.2.1), (460, r23.2.2.2.1), (461, r23.2.2.2.2.1), (462, r23.2.2.2.2.2.1), (463, r23.2.2.2.2.2.2.1), (464, r23.2.2.2.2.2.2.2.1), (465, r23.2.2.2.2.2.2.2.2.1), (466, r23.2.2.2.2.2.2.2.2.2.1), (467, r23.2.2.2.2.2.2.2.2.2.2.1), (468, r23.2.2.2.2.2.2.2.2.2.2.2.1), (469, r23.2.2.2.2.2.2.2.2.2.2.2.2.1), (470, r23.2.2.2.2.2.2.2.2.2.2.2.2.2.1), (471, r23.2.2.2.2.2.2.2.2.2.2.2.2.2.2.1), (472, r23.2.2.2.2.2.2.2.2.2.2.2.2.2.2.2.1), (490, r23.2.2.2.2.2.2.2.2.2.2.2.2.2.2.2.2.1), (491, r23.2.2.2.2.2.2.2.2.2.2.2.2.2.2.2.2.2)]) (lE' := []) rfl rfl rfl rfl ?_
          refine q_blf 0 [] (a := q_kc (t, r, m, 499, 529, ext, rx, L) I E 42 [none, some (.ref 457), none, none, some (.int (0 : Int32)), none] [] [(457, r23.2.1), (459, r23.2.2.1), (460, r23.2.2.2.1), (461, r23.2.2.2.2.1), (462, r23.2.2.2.2.2.1), (463, r23.2.2.2.2.2.2.1), (464, r23.2.2.2.2.2.2.2.1), (465, r23.2.2.2.2.2.2.2.2.1), (466, r23.2.2.2.2.2.2.2.2.2.1), (467, r23.2.2.2.2.2.2.2.2.2.2.1), (468, r23.2.2.2.2.2.2.2.2.2.2.2.1), (469, r23.2.2.2.2.2.2.2.2.2.2.2.2.1), (470, r23.2.2.2.2.2.2.2.2.2.2.2.2.2.1), (471, r23.2.2.2.2.2.2.2.2.2.2.2.2.2.2.1), (472, r23.2.2.2.2.2.2.2.2.2.2.2.2.2.2.2.1), (490, r23.2.2.2.2.2.2.2.2.2.2.2.2.2.2.2.2.1), (491, r23.2.2.2.2.2.2.2.2.2.2.2.2.2.2.2.2.2)] []) (b := q_kc (t, r, m, 499, 529, ext, rx, L) I E 40 [none, some (.ref 457), none, none, some (.int (0 : Int32)), none] [] [(457, r23.2.1), (459, r23.2.2.1), (460, r23.2.2.2.1), (461, r23.2.2.2.2.1), (462, r23.2.2.2.2.2.1), (463, r23.2.2.2.2.2.2.1), (464, r23.2.2.2.2.2.2.2.1), (465, r23.2.2.2.2.2.2.2.2.1), (466, r23.2.2.2.2.2.2.2.2.2.1), (467, r23.2.2.2.2.2.2.2.2.2.2.1), (468, r23.2.2.2.2.2.2.2.2.2.2.2.1), (469, r23.2.2.2.2.2.2.2.2.2.2.2.2.1), (470, r23.2.2.2.2.2.2.2.2.2.2.2.2.2.1), (471, r23.2.2.2.2.2.2.2.2.2.2.2.2.2.2.1), (472, r23.2.2.2.2.2.2.2.2.2.2.2.2.2.2.2.1), (490, r23.2.2.2.2.2.2.2.2.2.2.2.2.2.2.2.2.1), (491, r23.2.2.2.2.2.2.2.2.2.2.2.2.2.2.2.2.2)] []) (P := (q_bz r23.1) = 0) ok_X3_passNext rfl q_cn (fun h24 => ?_) (fun h24 => ?_)
          · have hf := q_ip h24 hf
            refine q_blf 3 [] (a := q_kc (t, r, m, 499, 529, ext, rx, L) I E 54 [none, some (.ref 457), none, none, some (.int (0 : Int32)), some (.int (0 : Int32))] [] [(457, r23.2.1), (459, r23.2.2.1), (460, r23.2.2.2.1), (461, r23.2.2.2.2.1), (462, r23.2.2.2.2.2.1), (463, r23.2.2.2.2.2.2.1), (464, r23.2.2.2.2.2.2.2.1), (465, r23.2.2.2.2.2.2.2.2.1), (466, r23.2.2.2.2.2.2.2.2.2.1), (467, r23.2.2.2.2.2.2.2.2.2.2.1), (468, r23.2.2.2.2.2.2.2.2.2.2.2.1), (469, r23.2.2.2.2.2.2.2.2.2.2.2.2.1), (470, r23.2.2.2.2.2.2.2.2.2.2.2.2.2.1), (471, r23.2.2.2.2.2.2.2.2.2.2.2.2.2.2.1), (472, r23.2.2.2.2.2.2.2.2.2.2.2.2.2.2.2.1), (490, r23.2.2.2.2.2.2.2.2.2.2.2.2.2.2.2.2.1), (491, r23.2.2.2.2.2.2.2.2.2.2.2.2.2.2.2.2.2)] []) (b := q_kc (t, r, m, 499, 529, ext, rx, L) I E 46 [none, some (.ref 457), none, none, some (.int (0 : Int32)), some (.int (0 : Int32))] [] [(457, r23.2.1), (459, r23.2.2.1), (460, r23.2.2.2.1), (461, r23.2.2.2.2.1), (462, r23.2.2.2.2.2.1), (463, r23.2.2.2.2.2.2.1), (464, r23.2.2.2.2.2.2.2.1), (465, r23.2.2.2.2.2.2.2.2.1), (466, r23.2.2.2.2.2.2.2.2.2.1), (467, r23.2.2.2.2.2.2.2.2.2.2.1), (468, r23.2.2.2.2.2.2.2.2.2.2.2.1), (469, r23.2.2.2.2.2.2.2.2.2.2.2.2.1), (470, r23.2.2.2.2.2.2.2.2.2.2.2.2.2.1), (471, r23.2.2.2.2.2.2.2.2.2.2.2.2.2.2.1), (472, r23.2.2.2.2.2.2.2.2.2.2.2.2.2.2.2.1), (490, r23.2.2.2.2.2.2.2.2.2.2.2.2.2.2.2.2.1), (491, r23.2.2.2.2.2.2.2.2.2.2.2.2.2.2.2.2.2)] []) (P := (0 : Int32) = 0) ok_X3_passNext rfl q_cn (fun h25 => ?_) (fun h25 => ?_)
            · have hf := q_ip h25 hf
              refine q_blk 7 [] (c' := q_kc (t, r, m, 499, 529, ext, rx, L) I E 61 [none, some (.ref 457), none, none, some (.int (0 : Int32)), some (.int (0 : Int32))] [.int (0 : Int32)] [(457, (q_up r23.2.1 10 ((r23.2.1 10) + (1 : Int32)))), (459, r23.2.2.1), (460, r23.2.2.2.1), (461, r23.2.2.2.2.1), (462, r23.2.2.2.2.2.1), (463, r23.2.2.2.2.2.2.1), (464, r23.2.2.2.2.2.2.2.1), (465, r23.2.2.2.2.2.2.2.2.1), (466, r23.2.2.2.2.2.2.2.2.2.1), (467, r23.2.2.2.2.2.2.2.2.2.2.1), (468, r23.2.2.2.2.2.2.2.2.2.2.2.1), (469, r23.2.2.2.2.2.2.2.2.2.2.2.2.1), (470, r23.2.2.2.2.2.2.2.2.2.2.2.2.2.1), (471, r23.2.2.2.2.2.2.2.2.2.2.2.2.2.2.1), (472, r23.2.2.2.2.2.2.2.2.2.2.2.2.2.2.2.1), (490, r23.2.2.2.2.2.2.2.2.2.2.2.2.2.2.2.2.1), (491, r23.2.2.2.2.2.2.2.2.2.2.2.2.2.2.2.2.2)] []) ok_X3_passNext rfl q_cn ?_
              cases hf
              exact q_kri ok_X3_passNext rfl rfl rfl (Nat.le_of_ble_eq_true rfl) (Nat.le_of_ble_eq_true rfl) ⟨rfl, q_hpe (q_fin [457, 459, 460, 461, 462, 463, 464, 465, 466, 467, 468, 469, 470, 471, 472, 490, 491] rfl) (q_fin [] rfl)⟩
            · have hf := q_in h25 hf
              refine q_blf 1 [] (a := q_kc (t, r, m, 499, 529, ext, rx, L) I E 54 [none, some (.ref 457), none, none, some (.int (0 : Int32)), some (.int (0 : Int32))] [] [(457, r23.2.1), (459, r23.2.2.1), (460, r23.2.2.2.1), (461, r23.2.2.2.2.1), (462, r23.2.2.2.2.2.1), (463, r23.2.2.2.2.2.2.1), (464, r23.2.2.2.2.2.2.2.1), (465, r23.2.2.2.2.2.2.2.2.1), (466, r23.2.2.2.2.2.2.2.2.2.1), (467, r23.2.2.2.2.2.2.2.2.2.2.1), (468, r23.2.2.2.2.2.2.2.2.2.2.2.1), (469, r23.2.2.2.2.2.2.2.2.2.2.2.2.1), (470, r23.2.2.2.2.2.2.2.2.2.2.2.2.2.1), (471, r23.2.2.2.2.2.2.2.2.2.2.2.2.2.2.1), (472, r23.2.2.2.2.2.2.2.2.2.2.2.2.2.2.2.1), (490, r23.2.2.2.2.2.2.2.2.2.2.2.2.2.2.2.2.1), (491, r23.2.2.2.2.2.2.2.2.2.2.2.2.2.2.2.2.2)] []) (b := q_kc (t, r, m, 499, 529, ext, rx, L) I E 48 [none, some (.ref 457), none, none, some (.int (0 : Int32)), some (.int (0 : Int32))] [] [(457, r23.2.1), (459, r23.2.2.1), (460, r23.2.2.2.1), (461, r23.2.2.2.2.1), (462, r23.2.2.2.2.2.1), (463, r23.2.2.2.2.2.2.1), (464, r23.2.2.2.2.2.2.2.1), (465, r23.2.2.2.2.2.2.2.2.1), (466, r23.2.2.2.2.2.2.2.2.2.1), (467, r23.2.2.2.2.2.2.2.2.2.2.1), (468, r23.2.2.2.2.2.2.2.2.2.2.2.1), (469, r23.2.2.2.2.2.2.2.2.2.2.2.2.1), (470, r23.2.2.2.2.2.2.2.2.2.2.2.2.2.1), (471, r23.2.2.2.2.2.2.2.2.2.2.2.2.2.2.1), (472, r23.2.2.2.2.2.2.2.2.2.2.2.2.2.2.2.1), (490, r23.2.2.2.2.2.2.2.2.2.2.2.2.2.2.2.2.1), (491, r23.2.2.2.2.2.2.2.2.2.2.2.2.2.2.2.2.2)] []) (P := ¬ (0 : Int32) = 0) ok_X3_passNext rfl q_cn (fun h26 => ?_) (fun h26 => ?_)
              · have hf := q_ip h26 hf
                refine q_blk 7 [] (c' := q_kc (t, r, m, 499, 529, ext, rx, L) I E 61 [none, some (.ref 457), none, none, some (.int (0 : Int32)), some (.int (0 : Int32))] [.int (0 : Int32)] [(457, (q_up r23.2.1 10 ((r23.2.1 10) + (1 : Int32)))), (459, r23.2.2.1), (460, r23.2.2.2.1), (461, r23.2.2.2.2.1), (462, r23.2.2.2.2.2.1), (463, r23.2.2.2.2.2.2.1), (464, r23.2.2.2.2.2.2.2.1), (465, r23.2.2.2.2.2.2.2.2.1), (466, r23.2.2.2.2.2.2.2.2.2.1), (467, r23.2.2.2.2.2.2.2.2.2.2.1), (468, r23.2.2.2.2.2.2.2.2.2.2.2.1), (469, r23.2.2.2.2.2.2.2.2.2.2.2.2.1), (470, r23.2.2.2.2.2.2.2.2.2.2.2.2.2.1), (471, r23.2.2.2.2.2.2.2.2.2.2.2.2.2.2.1), (472, r23.2.2.2.2.2.2.2.2.2.2.2.2.2.2.2.1), (490, r23.2.2.2.2.2.2.2.2.2.2.2.2.2.2.2.2.1), (491, r23.2.2.2.2.2.2.2.2.2.2.2.2.2.2.2.2.2)] []) ok_X3_passNext rfl q_cn ?_
                cases hf
                exact q_kri ok_X3_passNext rfl rfl rfl (Nat.le_of_ble_eq_true rfl) (Nat.le_of_ble_eq_true rfl) ⟨rfl, q_hpe (q_fin [457, 459, 460, 461, 462, 463, 464, 465, 466, 467, 468, 469, 470, 471, 472, 490, 491] rfl) (q_fin [] rfl)⟩
              · have hf := q_in h26 hf
                refine q_blk 13 [] (c' := q_kc (t, r, m, 499, 529, ext, rx, L) I E 61 [none, some (.ref 457), none, none, some (.int (0 : Int32)), some (.int (0 : Int32))] [.int (0 : Int32)] [(457, (q_up (q_up r23.2.1 11 ((r23.2.1 11) + (1 : Int32))) 10 (((q_up r23.2.1 11 ((r23.2.1 11) + (1 : Int32))) 10) + (1 : Int32)))), (459, r23.2.2.1), (460, r23.2.2.2.1), (461, r23.2.2.2.2.1), (462, r23.2.2.2.2.2.1), (463, r23.2.2.2.2.2.2.1), (464, r23.2.2.2.2.2.2.2.1), (465, r23.2.2.2.2.2.2.2.2.1), (466, r23.2.2.2.2.2.2.2.2.2.1), (467, r23.2.2.2.2.2.2.2.2.2.2.1), (468, r23.2.2.2.2.2.2.2.2.2.2.2.1), (469, r23.2.2.2.2.2.2.2.2.2.2.2.2.1), (470, r23.2.2.2.2.2.2.2.2.2.2.2.2.2.1), (471, r23.2.2.2.2.2.2.2.2.2.2.2.2.2.2.1), (472, r23.2.2.2.2.2.2.2.2.2.2.2.2.2.2.2.1), (490, r23.2.2.2.2.2.2.2.2.2.2.2.2.2.2.2.2.1), (491, r23.2.2.2.2.2.2.2.2.2.2.2.2.2.2.2.2.2)] []) ok_X3_passNext rfl q_cn ?_
                cases hf
                exact q_kri ok_X3_passNext rfl rfl rfl (Nat.le_of_ble_eq_true rfl) (Nat.le_of_ble_eq_true rfl) ⟨rfl, q_hpe (q_fin [457, 459, 460, 461, 462, 463, 464, 465, 466, 467, 468, 469, 470, 471, 472, 490, 491] rfl) (q_fin [] rfl)⟩
          · have hf := q_in h24 hf
            refine q_blf 4 [] (a := q_kc (t, r, m, 499, 529, ext, rx, L) I E 54 [none, some (.ref 457), none, none, some (.int (0 : Int32)), some (.int (1 : Int32))] [] [(457, r23.2.1), (459, r23.2.2.1), (460, r23.2.2.2.1), (461, r23.2.2.2.2.1), (462, r23.2.2.2.2.2.1), (463, r23.2.2.2.2.2.2.1), (464, r23.2.2.2.2.2.2.2.1), (465, r23.2.2.2.2.2.2.2.2.1), (466, r23.2.2.2.2.2.2.2.2.2.1), (467, r23.2.2.2.2.2.2.2.2.2.2.1), (468, r23.2.2.2.2.2.2.2.2.2.2.2.1), (469, r23.2.2.2.2.2.2.2.2.2.2.2.2.1), (470, r23.2.2.2.2.2.2.2.2.2.2.2.2.2.1), (471, r23.2.2.2.2.2.2.2.2.2.2.2.2.2.2.1), (472, r23.2.2.2.2.2.2.2.2.2.2.2.2.2.2.2.1), (490, r23.2.2.2.2.2.2.2.2.2.2.2.2.2.2.2.2.1), (491, r23.2.2.2.2.2.2.2.2.2.2.2.2.2.2.2.2.2)] []) (b := q_kc (t, r, m, 499, 529, ext, rx, L) I E 46 [none, some (.ref 457), none, none, some (.int (0 : Int32)), some (.int (1 : Int32))] [] [(457, r23.2.1), (459, r23.2.2.1), (460, r23.2.2.2.1), (461, r23.2.2.2.2.1), (462, r23.2.2.2.2.2.1), (463, r23.2.2.2.2.2.2.1), (464, r23.2.2.2.2.2.2.2.1), (465, r23.2.2.2.2.2.2.2.2.1), (466, r23.2.2.2.2.2.2.2.2.2.1), (467, r23.2.2.2.2.2.2.2.2.2.2.1), (468, r23.2.2.2.2.2.2.2.2.2.2.2.1), (469, r23.2.2.2.2.2.2.2.2.2.2.2.2.1), (470, r23.2.2.2.2.2.2.2.2.2.2.2.2.2.1), (471, r23.2.2.2.2.2.2.2.2.2.2.2.2.2.2.1), (472, r23.2.2.2.2.2.2.2.2.2.2.2.2.2.2.2.1), (490, r23.2.2.2.2.2.2.2.2.2.2.2.2.2.2.2.2.1), (491, r23.2.2.2.2.2.2.2.2.2.2.2.2.2.2.2.2.2)] []) (P := (0 : Int32) = 0) ok_X3_passNext rfl q_cn (fun h27 => ?_) (fun h27 => ?_)
            · have hf := q_ip h27 hf
              refine q_blk 7 [] (c' := q_kc (t, r, m, 499, 529, ext, rx, L) I E 61 [none, some (.ref 457), none, none, some (.int (0 : Int32)), some (.int (1 : Int32))] [.int (1 : Int32)] [(457, (q_up r23.2.1 10 ((r23.2.1 10) + (1 : Int32)))), (459, r23.2.2.1), (460, r23.2.2.2.1), (461, r23.2.2.2.2.1), (462, r23.2.2.2.2.2.1), (463, r23.2.2.2.2.2.2.1), (464, r23.2.2.2.2.2.2.2.1), (465, r23.2.2.2.2.2.2.2.2.1), (466, r23.2.2.2.2.2.2.2.2.2.1), (467, r23.2.2.2.2.2.2.2.2.2.2.1), (468, r23.2.2.2.2.2.2.2.2.2.2.2.1), (469, r23.2.2.2.2.2.2.2.2.2.2.2.2.1), (470, r23.2.2.2.2.2.2.2.2.2.2.2.2.2.1), (471, r23.2.2.2.2.2.2.2.2.2.2.2.2.2.2.1), (472, r23.2.2.2.2.2.2.2.2.2.2.2.2.2.2.2.1), (490, r23.2.2.2.2.2.2.2.2.2.2.2.2.2.2.2.2.1), (491, r23.2.2.2.2.2.2.2.2.2.2.2.2.2.2.2.2.2)] []) ok_X3_passNext rfl q_cn ?_
              cases hf
              exact q_kri ok_X3_passNext rfl rfl rfl (Nat.le_of_ble_eq_true rfl) (Nat.le_of_ble_eq_true rfl) ⟨rfl, q_hpe (q_fin [457, 459, 460, 461, 462, 463, 464, 465, 466, 467, 468, 469, 470, 471, 472, 490, 491] rfl) (q_fin [] rfl)⟩
            · have hf := q_in h27 hf
              refine q_blf 1 [] (a := q_kc (t, r, m, 499, 529, ext, rx, L) I E 54 [none, some (.ref 457), none, none, some (.int (0 : Int32)), some (.int (1 : Int32))] [] [(457, r23.2.1), (459, r23.2.2.1), (460, r23.2.2.2.1), (461, r23.2.2.2.2.1), (462, r23.2.2.2.2.2.1), (463, r23.2.2.2.2.2.2.1), (464, r23.2.2.2.2.2.2.2.1), (465, r23.2.2.2.2.2.2.2.2.1), (466, r23.2.2.2.2.2.2.2.2.2.1), (467, r23.2.2.2.2.2.2.2.2.2.2.1), (468, r23.2.2.2.2.2.2.2.2.2.2.2.1), (469, r23.2.2.2.2.2.2.2.2.2.2.2.2.1), (470, r23.2.2.2.2.2.2.2.2.2.2.2.2.2.1), (471, r23.2.2.2.2.2.2.2.2.2.2.2.2.2.2.1), (472, r23.2.2.2.2.2.2.2.2.2.2.2.2.2.2.2.1), (490, r23.2.2.2.2.2.2.2.2.2.2.2.2.2.2.2.2.1), (491, r23.2.2.2.2.2.2.2.2.2.2.2.2.2.2.2.2.2)] []) (b := q_kc (t, r, m, 499, 529, ext, rx, L) I E 48 [none, some (.ref 457), none, none, some (.int (0 : Int32)), some (.int (1 : Int32))] [] [(457, r23.2.1), (459, r23.2.2.1), (460, r23.2.2.2.1), (461, r23.2.2.2.2.1), (462, r23.2.2.2.2.2.1), (463, r23.2.2.2.2.2.2.1), (464, r23.2.2.2.2.2.2.2.1), (465, r23.2.2.2.2.2.2.2.2.1), (466, r23.2.2.2.2.2.2.2.2.2.1), (467, r23.2.2.2.2.2.2.2.2.2.2.1), (468, r23.2.2.2.2.2.2.2.2.2.2.2.1), (469, r23.2.2.2.2.2.2.2.2.2.2.2.2.1), (470, r23.2.2.2.2.2.2.2.2.2.2.2.2.2.1), (471, r23.2.2.2.2.2.2.2.2.2.2.2.2.2.2.1), (472, r23.2.2.2.2.2.2.2.2.2.2.2.2.2.2.2.1), (490, r23.2.2.2.2.2.2.2.2.2.2.2.2.2.2.2.2.1), (491, r23.2.2.2.2.2.2.2.2.2.2.2.2.2.2.2.2.2)] []) (P := ¬ (1 : Int32) = 0) ok_X3_passNext rfl q_cn (fun h28 => ?_) (fun h28 => ?_)
              · have hf := q_ip h28 hf
                refine q_blk 7 [] (c' := q_kc (t, r, m, 499, 529, ext, rx, L) I E 61 [none, some (.ref 457), none, none, some (.int (0 : Int32)), some (.int (1 : Int32))] [.int (1 : Int32)] [(457, (q_up r23.2.1 10 ((r23.2.1 10) + (1 : Int32)))), (459, r23.2.2.1), (460, r23.2.2.2.1), (461, r23.2.2.2.2.1), (462, r23.2.2.2.2.2.1), (463, r23.2.2.2.2.2.2.1), (464, r23.2.2.2.2.2.2.2.1), (465, r23.2.2.2.2.2.2.2.2.1), (466, r23.2.2.2.2.2.2.2.2.2.1), (467, r23.2.2.2.2.2.2.2.2.2.2.1), (468, r23.2.2.2.2.2.2.2.2.2.2.2.1), (469, r23.2.2.2.2.2.2.2.2.2.2.2.2.1), (470, r23.2.2.2.2.2.2.2.2.2.2.2.2.2.1), (471, r23.2.2.2.2.2.2.2.2.2.2.2.2.2.2.1), (472, r23.2.2.2.2.2.2.2.2.2.2.2.2.2.2.2.1), (490, r23.2.2.2.2.2.2.2.2.2.2.2.2.2.2.2.2.1), (491, r23.2.2.2.2.2.2.2.2.2.2.2.2.2.2.2.2.2)] []) ok_X3_passNext rfl q_cn ?_
                cases hf
                exact q_kri ok_X3_passNext rfl rfl rfl (Nat.le_of_ble_eq_true rfl) (Nat.le_of_ble_eq_true rfl) ⟨rfl, q_hpe (q_fin [457, 459, 460, 461, 462, 463, 464, 465, 466, 467, 468, 469, 470, 471, 472, 490, 491] rfl) (q_fin [] rfl)⟩
              · have hf := q_in h28 hf
                refine q_blk 13 [] (c' := q_kc (t, r, m, 499, 529, ext, rx, L) I E 61 [none, some (.ref 457), none, none, some (.int (0 : Int32)), some (.int (1 : Int32))] [.int (1 : Int32)] [(457, (q_up (q_up r23.2.1 11 ((r23.2.1 11) + (1 : Int32))) 10 (((q_up r23.2.1 11 ((r23.2.1 11) + (1 : Int32))) 10) + (1 : Int32)))), (459, r23.2.2.1), (460, r23.2.2.2.1), (461, r23.2.2.2.2.1), (462, r23.2.2.2.2.2.1), (463, r23.2.2.2.2.2.2.1), (464, r23.2.2.2.2.2.2.2.1), (465, r23.2.2.2.2.2.2.2.2.1), (466, r23.2.2.2.2.2.2.2.2.2.1), (467, r23.2.2.2.2.2.2.2.2.2.2.1), (468, r23.2.2.2.2.2.2.2.2.2.2.2.1), (469, r23.2.2.2.2.2.2.2.2.2.2.2.2.1), (470, r23.2.2.2.2.2.2.2.2.2.2.2.2.2.1), (471, r23.2.2.2.2.2.2.2.2.2.2.2.2.2.2.1), (472, r23.2.2.2.2.2.2.2.2.2.2.2.2.2.2.2.1), (490, r23.2.2.2.2.2.2.2.2.2.2.2.2.2.2.2.2.1), (491, r23.2.2.2.2.2.2.2.2.2.2.2.2.2.2.2.2.2)] []) ok_X3_passNext rfl q_cn ?_
                cases hf
                exact q_kri ok_X3_passNext rfl rfl rfl (Nat.le_of_ble_eq_true rfl) (Nat.le_of_ble_eq_true rfl) ⟨rfl, q_hpe (q_fin [457, 459, 460, 461, 462, 463, 464, 465, 466, 467, 468, 469, 470, 471, 472, 490, 491] rfl) (q_fin [] rfl)⟩
      · have hf := q_in h19 hf
        refine q_blf 4 [] (a := q_kc (t, r, m, 499, 529, ext, rx, L) I E 42 [some (.ref 489), some (.ref 457), some (.int ((I 402) 4)), some (.ref (406 + r4)), some (.int (1 : Int32)), none] [] [(490, r18.2.1), (491, r18.2.2)] []) (b := q_kc (t, r, m, 499, 529, ext, rx, L) I E 35 [some (.ref 489), some (.ref 457), some (.int ((I 402) 4)), some (.ref (406 + r4)), some (.int (1 : Int32)), none] [] [(490, r18.2.1), (491, r18.2.2)] []) (P := (1 : Int32) = 0) ok_X3_passNext rfl q_cn (fun h29 => ?_) (fun h29 => ?_)
        · have hf := q_ip h29 hf
          refine q_blf 3 [] (a := q_kc (t, r, m, 499, 529, ext, rx, L) I E 54 [some (.ref 489), some (.ref 457), some (.int ((I 402) 4)), some (.ref (406 + r4)), some (.int (1 : Int32)), some (.int (0 : Int32))] [] [(490, r18.2.1), (491, r18.2.2)] []) (b := q_kc (t, r, m, 499, 529, ext, rx, L) I E 46 [some (.ref 489), some (.ref 457), some (.int ((I 402) 4)), some (.ref (406 + r4)), some (.int (1 : Int32)), some (.int (0 : Int32))] [] [(490, r18.2.1), (491, r18.2.2)] []) (P := (1 : Int32) = 0) ok_X3_passNext rfl q_cn (fun h30 => ?_) (fun h30 => ?_)
          · have hf := q_ip h30 hf
            refine q_blk 7 [] (c' := q_kc (t, r, m, 499, 529, ext, rx, L) I E 61 [some (.ref 489), some (.ref 457), some (.int ((I 402) 4)), some (.ref (406 + r4)), some (.int (1 : Int32)), some (.int (0 : Int32))] [.int (0 : Int32)] [(457, (q_up (I 457) 10 (((I 457) 10) + (1 : Int32)))), (490, r18.2.1), (491, r18.2.2)] []) ok_X3_passNext rfl q_cn ?_
            cases hf
            exact q_kri ok_X3_passNext rfl rfl rfl (Nat.le_of_ble_eq_true rfl) (Nat.le_of_ble_eq_true rfl) ⟨rfl, q_hpe (q_fin [457, 459, 460, 461, 462, 463, 464, 465, 466, 467, 468, 469, 470, 471, 472, 490, 491] rfl) (q_fin [] rfl)⟩
          · have hf := q_in h30 hf
            refine q_blf 1 [] (a := q_kc (t, r, m, 499, 529, ext, rx, L) I E 54 [some (.ref 489), some (.ref 457), some (.int ((I 402) 4)), some (.ref (406 + r4)), some (.int (1 : Int32)), some (.int (0 : Int32))] [] [(490, r18.2.1), (491, r18.2.2)] []) (b := q_kc (t, r, m, 499, 529, ext, rx, L) I E 48 [some (.ref 489), some (.ref 457), some (.int ((I 402) 4)), some (.ref (406 + r4)), some (.int (1 : Int32)), some (.int (0 : Int32))] [] [(490, r18.2.1), (491, r18.2.2)] []) (P := ¬ (0 : Int32) = 0) ok_X3_passNext rfl q_cn (fun h31 => ?_) (fun h31 => ?_)
            · have hf := q_ip h31 hf
              refine q_blk 7 [] (c' := q_kc (t, r, m, 499, 529, ext, rx, L) I E 61 [some (.ref 489), some (.ref 457), some (.int ((I 402) 4)), some (.ref (406 + r4)), some (.int (1 : Int32)), some (.int (0 : Int32))] [.int (0 : Int32)] [(457, (q_up (I 457) 10 (((I 457) 10) + (1 : Int32)))), (490, r18.2.1), (491, r18.2.2)] []) ok_X3_passNext rfl q_cn ?_
              cases hf
              exact q_kri ok_X3_passNext rfl rfl rfl (Nat.le_of_ble_eq_true rfl) (Nat.le_of_ble_eq_true rfl) ⟨rfl, q_hpe (q_fin [457, 459, 460, 461, 462, 463, 464, 465, 466, 467, 468, 469, 470, 471, 472, 490, 491] rfl) (q_fin [] rfl)⟩
            · have hf := q_in h31 hf
              refine q_blk 13 [] (c' := q_kc (t, r, m, 499, 529, ext, rx, L) I E 61 [some (.ref 489), some (.ref 457), some (.int ((I 402) 4)), some (.ref (406 + r4)), some (.int (1 : Int32)), some (.int (0 : Int32))] [.int (0 : Int32)] [(457, (q_up (q_up (I 457) 11 (((I 457) 11) + (1 : Int32))) 10 (((q_up (I 457) 11 (((I 457) 11) + (1 : Int32))) 10) + (1 : Int32)))), (490, r18.2.1), (491, r18.2.2)] []) ok_X3_passNext rfl q_cn ?_
              cases hf
              exact q_kri ok_X3_passNext rfl rfl rfl (Nat.le_of_ble_eq_true rfl) (Nat.le_of_ble_eq_true rfl) ⟨rfl, q_hpe (q_fin [457, 459, 460, 461, 462, 463, 464, 465, 466, 467, 468, 469, 470, 471, 472, 490, 491] rfl) (q_fin [] rfl)⟩
        · have hf := q_in h29 hf
          refine q_blk 3 [] (c' := q_kc (t, r, m, 499, 529, ext, rx, L) I E 38 [some (.ref 489), some (.ref 457), some (.int ((I 402) 4)), some (.ref (406 + r4)), some (.int (1 : Int32)), none] [.ref (406 + r4), .ref 457, .ref 489] [(490, r18.2.1), (491, r18.2.2)] []) ok_X3_passNext rfl q_cn ?_
          refine q_less (ls' := [none, some (.ref 457), none, none, some (.int (1 : Int32)), none]) (q_sb1 (q_sb2 (q_sb1 (q_sb1 (q_sb2 (q_sb1 q_sb0)))))) ?_
          obtain ⟨r32, hr32, hf⟩ := q_bd hf
          refine q_kV (M2 := m_X3_perform) (As := [.ref 457, .ref (406 + r4)]) (b := 489) (v2 := some (.int (q_bz r32.1))) ok_X3_passNext ok_X3_perform cv_X3_perform (ct_X3_perform_489_457_T406 (d := 5) (Nat.le_refl _) hr32) rfl rfl (Or.inl rfl) rfl rfl rfl rfl (Nat.le_trans (Nat.le_of_ble_eq_true rfl) hd) (Nat.le_of_ble_eq_true rfl) (Nat.le_of_ble_eq_true rfl) (Nat.le_of_ble_eq_true rfl) (fun x hx => hx) rfl rfl rfl (pos' := 39) (st' := [.int (q_bz r32.1)]) (lI' := [(457, r32.2.1), (459, r32.2.2.1), (460, r32.2.2.2.1), (461, r32.2.2.2.2.1), (462, r32.2.2.2.2.2.1), (463, r32.2.2.2.2.2.2.1), (464, r32.2.2.2.2.2.2.2.1), (465, r32.2.2.2.2.2.2.2.2.1), (466, r32.2.2.2.2.2.2.2.2.2.1), (467, r32.2.2.2.2.2.2.2.2.2.2.1), (468, r32.2.2.2.2.2.2.2.2.2.2.2.1), (469, r32.2.2.2.2.2.2.2.2.2.2.2.2.1), (470, r32.2.2.2.2.2.2.2.2.2.2.2.2.2.1), (471, r32.2.2.2.2.2.2.2.2.2.2.2.2.2.2.1), (472, r32.2.2.2.2.2.2.2.2.2.2.2.2.2.2.2.1), (490, r32.2.2.2.2.2.2.2.2.2.2.2.2.2.2.2.2.1), (491, r32.2.2.2.2.2.2.2.2.2.2.2.2.2.2.2.2.2)]) (lE' := []) rfl rfl rfl rfl ?_
          refine q_blf 0 [] (a := q_kc (t, r, m, 499, 529, ext, rx, L) I E 42 [none, some (.ref 457), none, none, some (.int (1 : Int32)), none] [] [(457, r32.2.1), (459, r32.2.2.1), (460, r32.2.2.2.1), (461, r32.2.2.2.2.1), (462, r32.2.2.2.2.2.1), (463, r32.2.2.2.2.2.2.1), (464, r32.2.2.2.2.2.2.2.1), (465, r32.2.2.2.2.2.2.2.2.1), (466, r32.2.2.2.2.2.2.2.2.2.1), (467, r32.2.2.2.2.2.2.2.2.2.2.1), (468, r32.2.2.2.2.2.2.2.2.2.2.2.1), (469, r32.2.2.2.2.2.2.2.2.2.2.2.2.1), (470, r32.2.2.2.2.2.2.2.2.2.2.2.2.2.1), (471, r32.2.2.2.2.2.2.2.2.2.2.2.2.2.2.1), (472, r32.2.2.2.2.2.2.2.2.2.2.2.2.2.2.2.1), (490, r32.2.2.2.2.2.2.2.2.2.2.2.2.2.2.2.2.1), (491, r32.2.2.2.2.2.2.2.2.2.2.2.2.2.2.2.2.2)] []) (b := q_kc (t, r, m, 499, 529, ext, rx, L) I E 40 [none, some (.ref 457), none, none, some (.int (1 : Int32)), none] [] [(457, r32.2.1), (459, r32.2.2.1), (460, r32.2.2.2.1), (461, r32.2.2.2.2.1), (462, r32.2.2.2.2.2.1), (463, r32.2.2.2.2.2.2.1), (464, r32.2.2.2.2.2.2.2.1), (465, r32.2.2.2.2.2.2.2.2.1), (466, r32.2.2.2.2.2.2.2.2.2.1), (467, r32.2.2.2.2.2.2.2.2.2.2.1), (468, r32.2.2.2.2.2.2.2.2.2.2.2.1), (469, r32.2.2.2.2.2.2.2.2.2.2.2.2.1), (470, r32.2.2.2.2.2.2.2.2.2.2.2.2.2.1), (471, r32.2.2.2.2.2.2.2.2.2.2.2.2.2.2.1), (472, r32.2.2.2.2.2.2.2.2.2.2.2.2.2.2.2.1), (490, r32.2.2.2.2.2.2.2.2.2.2.2.2.2.2.2.2.1), (491, r32.2.2.2.2.2.2.2.2.2.2.2.2.2.2.2.2.2)] []) (P := (q_bz r32.1) = 0) ok_X3_passNext rfl q_cn (fun h33 => ?_) (fun h33 => ?_)
          · have hf := q_ip h33 hf
            refine q_blf 3 [] (a := q_kc (t, r, m, 499, 529, ext, rx, L) I E 54 [none, some (.ref 457), none, none, some (.int (1 : Int32)), some (.int (0 : Int32))] [] [(457, r32.2.1), (459, r32.2.2.1), (460, r32.2.2.2.1), (461, r32.2.2.2.2.1), (462, r32.2.2.2.2.2.1), (463, r32.2.2.2.2.2.2.1), (464, r32.2.2.2.2.2.2.2.1), (465, r32.2.2.2.2.2.2.2.2.1), (466, r32.2.2.2.2.2.2.2.2.2.1), (467, r32.2.2.2.2.2.2.2.2.2.2.1), (468, r32.2.2.2.2.2.2.2.2.2.2.2.1), (469, r32.2.2.2.2.2.2.2.2.2.2.2.2.1), (470, r32.2.2.2.2.2.2.2.2.2.2.2.2.2.1), (471, r32.2.2.2.2.2.2.2.2.2.2.2.2.2.2.1), (472, r32.2.2.2.2.2.2.2.2.2.2.2.2.2.2.2.1), (490, r32.2.2.2.2.2.2.2.2.2.2.2.2.2.2.2.2.1), (491, r32.2.2.2.2.2.2.2.2.2.2.2.2.2.2.2.2.2)] []) (b := q_kc (t, r, m, 499, 529, ext, rx, L) I E 46 [none, some (.ref 457), none, none, some (.int (1 : Int32)), some (.int (0 : Int32))] [] [(457, r32.2.1), (459, r32.2.2.1), (460, r32.2.2.2.1), (461, r32.2.2.2.2.1), (462, r32.2.2.2.2.2.1), (463, r32.2.2.2.2.2.2.1), (464, r32.2.2.2.2.2.2.2.1), (465, r32.2.2.2.2.2.2.2.2.1), (466, r32.2.2.2.2.2.2.2.2.2.1), (467, r32.2.2.2.2.2.2.2.2.2.2.1), (468, r32.2.2.2.2.2.2.2.2.2.2.2.1), (469, r32.2.2.2.2.2.2.2.2.2.2.2.2.1), (470, r32.2.2.2.2.2.2.2.2.2.2.2.2.2.1), (471, r32.2.2.2.2.2.2.2.2.2.2.2.2.2.2.1), (472, r32.2.2.2.2.2.2.2.2.2.2.2.2.2.2.2.1), (490, r32.2.2.2.2.2.2.2.2.2.2.2.2.2.2.2.2.1), (491, r32.2.2.2.2.2.2.2.2.2.2.2.2.2.2.2.2.2)] []) (P := (1 : Int32) = 0) ok_X3_passNext rfl q_cn (fun h34 => ?_) (fun h34 => ?_)
            · have hf := q_ip h34 hf
              refine q_blk 7 [] (c' := q_kc (t, r, m, 499, 529, ext, rx, L) I E 61 [none, some (.ref 457), none, none, some (.int (1 : Int32)), some (.int (0 : Int32))] [.int (0 : Int32)] [(457, (q_up r32.2.1 10 ((r32.2.1 10) + (1 : Int32)))), (459, r32.2.2.1), (460, r32.2.2.2.1), (461, r32.2.2.2.2.1), (462, r32.2.2.2.2.2.1), (463, r32.2.2.2.2.2.2.1), (464, r32.2.2.2.2.2.2.2.1), (465, r32.2.2.2.2.2.2.2.2.1), (466, r32.2.2.2.2.2.2.2.2.2.1), (467, r32.2.2.2.2.2.2.2.2.2.2.1), (468, r32.2.2.2.2.2.2.2.2.2.2.2.1), (469, r32.2.2.2.2.2.2.2.2.2.2.2.2.1), (470, r32.2.2.2.2.2.2.2.2.2.2.2.2.2.1), (471, r32.2.2.2.2.2.2.2.2.2.2.2.2.2.2.1), (472, r32.2.2.2.2.2.2.2.2.2.2.2.2.2.2.2.1), (490, r32.2.2.2.2.2.2.2.2.2.2.2.2.2.2.2.2.1), (491, r32.2.2.2.2.2.2.2.2.2.2.2.2.2.2.2.2.2)] []) ok_X3_passNext rfl q_cn ?_
              cases hf
              exact q_kri ok_X3_passNext rfl rfl rfl (Nat.le_of_ble_eq_true rfl) (Nat.le_of_ble_eq_true rfl) ⟨rfl, q_hpe (q_fin [457, 459, 460, 461, 462, 463, 464, 465, 466, 467, 468, 469, 470, 471, 472, 490, 491] rfl) (q_fin [] rfl)⟩
            · have hf := q_in h34 hf
              refine q_blf 1 [] (a := q_kc (t, r, m, 499, 529, ext, rx, L) I E 54 [none, some (.ref 457), none, none, some (.int (1 : Int32)), some (.int (0 : Int32))] [] [(457, r32.2.1), (459, r32.2.2.1), (460, r32.2.2.2.1), (461, r32.2.2.2.2.1), (462, r32.2.2.2.2.2.1), (463, r32.2.2.2.2.2.2.1), (464, r32.2.2.2.2.2.2.2.1), (465, r32.2.2.2.2.2.2.2.2.1), (466, r32.2.2.2.2.2.2.2.2.2.1), (467, r32.2.2.2.2.2.2.2.2.2.2.1), (468, r32.2.2.2.2.2.2.2.2.2.2.2.1), (469, r32.2.2.2.2.2.2.2.2.2.2.2.2.1), (470, r32.2.2.2.2.2.2.2.2.2.2.2.2.2.1), (471, r32.2.2.2.2.2.2.2.2.2.2.2.2.2.2.1), (472, r32.2.2.2.2.2.2.2.2.2.2.2.2.2.2.2.1), (490, r32.2.2.2.2.2.2.2.2.2.2.2.2.2.2.2.2.1), (491, r32.2.2.2.2.2.2.2.2.2.2.2.2.2.2.2.2.2)] []) (b := q_kc (t, r, m, 499, 529, ext, rx, L) I E 48 [none, some (.ref 457), none, none, some (.int (1 : Int32)), some (.int (0 : Int32))] [] [(457, r32.2.1), (459, r32.2.2.1), (460, r32.2.2.2.1), (461, r32.2.2.2.2.1), (462, r32.2.2.2.2.2.1), (463, r32.2.2.2.2.2.2.1), (464, r32.2.2.2.2.2.2.2.1), (465, r32.2.2.2.2.2.2.2.2.1), (466, r32.2.2.2.2.2.2.2.2.2.1), (467, r32.2.2.2.2.2.2.2.2.2.2.1), (468, r32.2.2.2.2.2.2.2.2.2.2.2.1), (469, r32.2.2.2.2.2.2.2.2.2.2.2.2.1), (470, r32.2.2.2.2.2.2.2.2.2.2.2.2.2.1), (471, r32.2.2.2.2.2.2.2.2.2.2.2.2.2.2.1), (472, r32.2.2.2.2.2.2.2.2.2.2.2.2.2.2.2.1), (490, r32.2.2.2.2.2.2.2.2.2.2.2.2.2.2.2.2.1), (491, r32.2.2.2.2.2.2.2.2.2.2.2.2.2.2.2.2.2)] []) (P := ¬ (0 : Int32) = 0) ok_X3_passNext rfl q_cn (fun h35 => ?_) (fun h35 => ?_)
              · have hf := q_ip h35 hf
                refine q_blk 7 [] (c' := q_kc (t, r, m, 499, 529, ext, rx, L) I E 61 [none, some (.ref 457), none, none, some (.int (1 : Int32)), some (.int (0 : Int32))] [.int (0 : Int32)] [(457, (q_up r32.2.1 10 ((r32.2.1 10) + (1 : Int32)))), (459, r32.2.2.1), (460, r32.2.2.2.1), (461, r32.2.2.2.2.1), (462, r32.2.2.2.2.2.1), (463, r32.2.2.2.2.2.2.1), (464, r32.2.2.2.2.2.2.2.1), (465, r32.2.2.2.2.2.2.2.2.1), (466, r32.2.2.2.2.2.2.2.2.2.1), (467, r32.2.2.2.2.2.2.2.2.2.2.1), (468, r32.2.2.2.2.2.2.2.2.2.2.2.1), (469, r32.2.2.2.2.2.2.2.2.2.2.2.2.1), (470, r32.2.2.2.2.2.2.2.2.2.2.2.2.2.1), (471, r32.2.2.2.2.2.2.2.2.2.2.2.2.2.2.1), (472, r32.2.2.2.2.2.2.2.2.2.2.2.2.2.2.2.1), (490, r32.2.2.2.2.2.2.2.2.2.2.2.2.2.2.2.2.1), (491, r32.2.2.2.2.2.2.2.2.2.2.2.2.2.2.2.2.2)] []) ok_X3_passNext rfl q_cn ?_
                cases hf
                exact q_kri ok_X3_passNext rfl rfl rfl (Nat.le_of_ble_eq_true rfl) (Nat.le_of_ble_eq_true rfl) ⟨rfl, q_hpe (q_fin [457, 459, 460, 461, 462, 463, 464, 465, 466, 467, 468, 469, 470, 471, 472, 490, 491] rfl) (q_fin [] rfl)⟩
              · have hf := q_in h35 hf
                refine q_blk 13 [] (c' := q_kc (t, r, m, 499, 529, ext, rx, L) I E 61 [none, some (.ref 457), none, none, some (.int (1 : Int32)), some (.int (0 : Int32))] [.int (0 : Int32)] [(457, (q_up (q_up r32.2.1 11 ((r32.2.1 11) + (1 : Int32))) 10 (((q_up r32.2.1 11 ((r32.2.1 11) + (1 : Int32))) 10) + (1 : Int32)))), (459, r32.2.2.1), (460, r32.2.2.2.1), (461, r32.2.2.2.2.1), (462, r32.2.2.2.2.2.1), (463, r32.2.2.2.2.2.2.1), (464, r32.2.2.2.2.2.2.2.1), (465, r32.2.2.2.2.2.2.2.2.1), (466, r32.2.2.2.2.2.2.2.2.2.1), (467, r32.2.2.2.2.2.2.2.2.2.2.1), (468, r32.2.2.2.2.2.2.2.2.2.2.2.1), (469, r32.2.2.2.2.2.2.2.2.2.2.2.2.1), (470, r32.2.2.2.2.2.2.2.2.2.2.2.2.2.1), (471, r32.2.2.2.2.2.2.2.2.2.2.2.2.2.2.1), (472, r32.2.2.2.2.2.2.2.2.2.2.2.2.2.2.2.1), (490, r32.2.2.2.2.2.2.2.2.2.2.2.2.2.2.2.2.1), (491, r32.2.2.2.2.2.2.2.2.2.2.2.2.2.2.2.2.2)] []) ok_X3_passNext rfl q_cn ?_
                cases hf
                exact q_kri ok_X3_passNext rfl rfl rfl (Nat.le_of_ble_eq_true rfl) (Nat.le_of_ble_eq_true rfl) ⟨rfl, q_hpe (q_fin [457, 459, 460, 461, 462, 463, 464, 465, 466, 467, 468, 469, 470, 471, 472, 490, 491] rfl) (q_fin [] rfl)⟩
          · have hf := q_in h33 hf
            refine q_blf 4 [] (a := q_kc (t, r, m, 499, 529, ext, rx, L) I E 54 [none, some (.ref 457), none, none, some (.int (1 : Int32)), some (.int (1 : Int32))] [] [(457, r32.2.1), (459, r32.2.2.1), (460, r32.2.2.2.1), (461, r32.2.2.2.2.1), (462, r32.2.2.2.2.2.1), (463, r32.2.2.2.2.2.2.1), (464, r32.2.2.2.2.2.2.2.1), (465, r32.2.2.2.2.2.2.2.2.1), (466, r32.2.2.2.2.2.2.2.2.2.1), (467, r32.2.2.2.2.2.2.2.2.2.2.1), (468, r32.2.2.2.2.2.2.2.2.2.2.2.1), (469, r32.2.2.2.2.2.2.2.2.2.2.2.2.1), (470, r32.2.2.2.2.2.2.2.2.2.2.2.2.2.1), (471, r32.2.2.2.2.2.2.2.2.2.2.2.2.2.2.1), (472, r32.2.2.2.2.2.2.2.2.2.2.2.2.2.2.2.1), (490, r32.2.2.2.2.2.2.2.2.2.2.2.2.2.2.2.2.1), (491, r32.2.2.2.2.2.2.2.2.2.2.2.2.2.2.2.2.2)] []) (b := q_kc (t, r, m, 499, 529, ext, rx, L) I E 46 [none, some (.ref 457), none, none, some (.int (1 : Int32)), some (.int (1 : Int32))] [] [(457, r32.2.1), (459, r32.2.2.1), (460, r32.2.2.2.1), (461, r32.2.2.2.2.1), (462, r32.2.2.2.2.2.1), (463, r32.2.2.2.2.2.2.1), (464, r32.2.2.2.2.2.2.2.1), (465, r32.2.2.2.2.2.2.2.2.1), (466, r32.2.2.2.2.2.2.2.2.2.1), (467, r32.2.2.2.2.2.2.2.2.2.2.1), (468, r32.2.2.2.2.2.2.2.2.2.2.2.1), (469, r32.2.2.2.2.2.2.2.2.2.2.2.2.1), (470, r32.2.2.2.2.2.2.2.2.2.2.2.2.2.1), (471, r32.2.2.2.2.2.2.2.2.2.2.2.2.2.2.1), (472, r32.2.2.2.2.2.2.2.2.2.2.2.2.2.2.2.1), (490, r32.2.2.2.2.2.2.2.2.2.2.2.2.2.2.2.2.1), (491, r32.2.2.2.2.2.2.2.2.2.2.2.2.2.2.2.2.2)] []) (P := (1 : Int32) = 0) ok_X3_passNext rfl q_cn (fun h36 => ?_) (fun h36 => ?_)
            · have hf := q_ip h36 hf
              refine q_blk 7 [] (c' := q_kc (t, r, m, 499, 529, ext, rx, L) I E 61 [none, some (.ref 457), none, none, some (.int (1 : Int32)), some (.int (1 : Int32))] [.int (1 : Int32)] [(457, (q_up r32.2.1 10 ((r32.2.1 10) + (1 : Int32)))), (459, r32.2.2.1), (460, r32.2.2.2.1), (461, r32.2.2.2.2.1), (462, r32.2.2.2.2.2.1), (463, r32.2.2.2.2.2.2.1), (464, r32.2.2.2.2.2.2.2.1), (465, r32.2.2.2.2.2.2.2.2.1), (466, r32.2.2.2.2.2.2.2.2.2.1), (467, r32.2.2.2.2.2.2.2.2.2.2.1), (468, r32.2.2.2.2.2.2.2.2.2.2.2.1), (469, r32.2.2.2.2.2.2.2.2.2.2.2.2.1), (470, r32.2.2.2.2.2.2.2.2.2.2.2.2.2.1), (471, r32.2.2.2.2.2.2.2.2.2.2.2.2.2.2.1), (472, r32.2.2.2.2.2.2.2.2.2.2.2.2.2.2.2.1), (490, r32.2.2.2.2.2.2.2.2.2.2.2.2.2.2.2.2.1), (491, r32.2.2.2.2.2.2.2.2.2.2.2.2.2.2.2.2.2)] []) ok_X3_passNext rfl q_cn ?_
              cases hf
              exact q_kri ok_X3_passNext rfl rfl rfl (Nat.le_of_ble_eq_true rfl) (Nat.le_of_ble_eq_true rfl) ⟨rfl, q_hpe (q_fin [457, 459, 460, 461, 462, 463, 464, 465, 466, 467, 468, 469, 470, 471, 472, 490, 491] rfl) (q_fin [] rfl)⟩
            · have hf := q_in h36 hf
              refine q_blf 1 [] (a := q_kc (t, r, m, 499, 529, ext, rx, L) I E 54 [none, some (.ref 457), none, none, some (.int (1 : Int32)), some (.int (1 : Int32))] [] [(457, r32.2.1), (459, r32.2.2.1), (460, r32.2.2.2.1), (461, r32.2.2.2.2.1), (462, r32.2.2.2.2.2.1), (463, r32.2.2.2.2.2.2.1), (464, r32.2.2.2.2.2.2.2.1), (465, r32.2.2.2.2.2.2.2.2.1), (466, r32.2.2.2.2.2.2.2.2.2.1), (467, r32.2.2.2.2.2.2.2.2.2.2.1), (468, r32.2.2.2.2.2.2.2.2.2.2.2.1), (469, r32.2.2.2.2.2.2.2.2.2.2.2.2.1), (470, r32.2.2.2.2.2.2.2.2.2.2.2.2.2.1), (471, r32.2.2.2.2.2.2.2.2.2.2.2.2.2.2.1), (472, r32.2.2.2.2.2.2.2.2.2.2.2.2.2.2.2.1), (490, r32.2.2.2.2.2.2.2.2.2.2.2.2.2.2.2.2.1), (491, r32.2.2.2.2.2.2.2.2.2.2.2.2.2.2.2.2.2)] []) (b := q_kc (t, r, m, 499, 529, ext, rx, L) I E 48 [none, some (.ref 457), none, none, some (.int (1 : Int32)), some (.int (1 : Int32))] [] [(457, r32.2.1), (459, r32.2.2.1), (460, r32.2.2.2.1), (461, r32.2.2.2.2.1), (462, r32.2.2.2.2.2.1), (463, r32.2.2.2.2.2.2.1), (464, r32.2.2.2.2.2.2.2.1), (465, r32.2.2.2.2.2.2.2.2.1), (466, r32.2.2.2.2.2.2.2.2.2.1), (467, r32.2.2.2.2.2.2.2.2.2.2.1), (468, r32.2.2.2.2.2.2.2.2.2.2.2.1), (469, r32.2.2.2.2.2.2.2.2.2.2.2.2.1), (470, r32.2.2.2.2.2.2.2.2.2.2.2.2.2.1), (471, r32.2.2.2.2.2.2.2.2.2.2.2.2.2.2.1), (472, r32.2.2.2.2.2.2.2.2.2.2.2.2.2.2.2.1), (490, r32.2.2.2.2.2.2.2.2.2.2.2.2.2.2.2.2.1), (491, r32.2.2.2.2.2.2.2.2.2.2.2.2.2.2.2.2.2)] []) (P := ¬ (1 : Int32) = 0) ok_X3_passNext rfl q_cn (fun h37 => ?_) (fun h37 => ?_)
              · have hf := q_ip h37 hf
                refine q_blk 7 [] (c' := q_kc (t, r, m, 499, 529, ext, rx, L) I E 61 [none, some (.ref 457), none, none, some (.int (1 : Int32)), some (.int (1 : Int32))] [.int (1 : Int32)] [(457, (q_up r32.2.1 10 ((r32.2.1 10) + (1 : Int32)))), (459, r32.2.2.1), (460, r32.2.2.2.1), (461, r32.2.2.2.2.1), (462, r32.2.2.2.2.2.1), (463, r32.2.2.2.2.2.2.1), (464, r32.2.2.2.2.2.2.2.1), (465, r32.2.2.2.2.2.2.2.2.1), (466, r32.2.2.2.2.2.2.2.2.2.1), (467, r32.2.2.2.2.2.2.2.2.2.2.1), (468, r32.2.2.2.2.2.2.2.2.2.2.2.1), (469, r32.2.2.2.2.2.2.2.2.2.2.2.2.1), (470, r32.2.2.2.2.2.2.2.2.2.2.2.2.2.1), (471, r32.2.2.2.2.2.2.2.2.2.2.2.2.2.2.1), (472, r32.2.2.2.2.2.2.2.2.2.2.2.2.2.2.2.1), (490, r32.2.2.2.2.2.2.2.2.2.2.2.2.2.2.2.2.1), (491, r32.2.2.2.2.2.2.2.2.2.2.2.2.2.2.2.2.2)] []) ok_X3_passNext rfl q_cn ?_
                cases hf
                exact q_kri ok_X3_passNext rfl rfl rfl (Nat.le_of_ble_eq_true rfl) (Nat.le_of_ble_eq_true rfl) ⟨rfl, q_hpe (q_fin [457, 459, 460, 461, 462, 463, 464, 465, 466, 467, 468, 469, 470, 471, 472, 490, 491] rfl) (q_fin [] rfl)⟩
              · have hf := q_in h37 hf
                refine q_blk 13 [] (c' := q_kc (t, r, m, 499, 529, ext, rx, L) I E 61 [none, some (.ref 457), none, none, some (.int (1 : Int32)), some (.int (1 : Int32))] [.int (1 : Int32)] [(457, (q_up (q_up r32.2.1 11 ((r32.2.1 11) + (1 : Int32))) 10 (((q_up r32.2.1 11 ((r32.2.1 11) + (1 : Int32))) 10) + (1 : Int32)))), (459, r32.2.2.1), (460, r32.2.2.2.1), (461, r32.2.2.2.2.1), (462, r32.2.2.2.2.2.1), (463, r32.2.2.2.2.2.2.1), (464, r32.2.2.2.2.2.2.2.1), (465, r32.2.2.2.2.2.2.2.2.1), (466, r32.2.2.2.2.2.2.2.2.2.1), (467, r32.2.2.2.2.2.2.2.2.2.2.1), (468, r32.2.2.2.2.2.2.2.2.2.2.2.1), (469, r32.2.2.2.2.2.2.2.2.2.2.2.2.1), (470, r32.2.2.2.2.2.2.2.2.2.2.2.2.2.1), (471, r32.2.2.2.2.2.2.2.2.2.2.2.2.2.2.1), (472, r32.2.2.2.2.2.2.2.2.2.2.2.2.2.2.2.1), (490, r32.2.2.2.2.2.2.2.2.2.2.2.2.2.2.2.2.1), (491, r32.2.2.2.2.2.2.2.2.2.2.2.2.2.2.2.2.2)] []) ok_X3_passNext rfl q_cn ?_
                cases hf
                exact q_kri ok_X3_passNext rfl rfl rfl (Nat.le_of_ble_eq_true rfl) (Nat.le_of_ble_eq_true rfl) ⟨rfl, q_hpe (q_fin [457, 459, 460, 461, 462, 463, 464, 465, 466, 467, 468, 469, 470, 471, 472, 490, 491] rfl) (q_fin [] rfl)⟩
  · have hf := q_in h1 hf
    refine q_blk 1 [] (c' := q_kc (t, r, m, 499, 529, ext, rx, L) I E 7 [some (.ref 489), some (.ref 457), some (.int ((I 402) 4)), none, none, none] [.int (0 : Int32)] [] []) ok_X3_passNext rfl q_cn ?_
    cases hf
    exact q_kri ok_X3_passNext rfl rfl rfl (Nat.le_of_ble_eq_true rfl) (Nat.le_of_ble_eq_true rfl) ⟨rfl, q_hpe (q_fin [457, 459, 460, 461, 462, 463, 464, 465, 466, 467, 468, 469, 470, 471, 472, 490, 491] rfl) (q_fin [] rfl)⟩
set_option maxHeartbeats 4000000 in
theorem lp_X3_goOn_L4_489_457 {g : q_G} {d mc ms : Nat} {h0 : q_H} {Q : (Option Value ⊕ String) → q_H → Prop} {k n : Nat} {t : Nat} {r : Nat} {m : Nat} {ext : Nat → q_Sh} {rx : Nat → Nat → Option Nat} {L : Nat → Nat → Int64} (hd : 7 ≤ d) (hk : k ≤ mc) (hn : n ≤ ms)  {v2 : Int32} : ∀ (fu : Nat) {I : Nat → Nat → Int32} {E : Nat → Nat → Option Nat} {v3 : Int32} {v4 : Int32} {r0 : Int32 × (Nat → Int32) × (Nat → Int32) × (Nat → Int32) × (Nat → Int32) × (Nat → Int32) × (Nat → Int32) × (Nat → Int32) × (Nat → Int32) × (Nat → Int32) × (Nat → Int32) × (Nat → Int32) × (Nat → Int32) × (Nat → Int32) × (Nat → Int32) × (Nat → Int32) × (Nat → Int32) × (Nat → Int32)} (hf : f_X3_goOn_L4 (I 402) (I 405) (E 404) (fun j => I (406 + j)) (fun j => E (406 + j)) v2 fu (I 457) (I 459) (I 460) (I 461) (I 462) (I 463) (I 464) (I 465) (I 466) (I 467) (I 468) (I 469) (I 470) (I 471) (I 472) (I 490) (I 491) v3 v4 = some r0) (hK0 : q_J g m_X3_goOn d mc ms h0 [471, 472] Q k n (q_kc (t, r, m, 499, 529, ext, rx, L) I E 14 [none, none, none, some (.int r0.1), none] [] [(457, r0.2.1), (459, r0.2.2.1), (460, r0.2.2.2.1), (461, r0.2.2.2.2.1), (462, r0.2.2.2.2.2.1), (463, r0.2.2.2.2.2.2.1), (464, r0.2.2.2.2.2.2.2.1), (465, r0.2.2.2.2.2.2.2.2.1), (466, r0.2.2.2.2.2.2.2.2.2.1), (467, r0.2.2.2.2.2.2.2.2.2.2.1), (468, r0.2.2.2.2.2.2.2.2.2.2.2.1), (469, r0.2.2.2.2.2.2.2.2.2.2.2.2.1), (470, r0.2.2.2.2.2.2.2.2.2.2.2.2.2.1), (471, r0.2.2.2.2.2.2.2.2.2.2.2.2.2.2.1), (472, r0.2.2.2.2.2.2.2.2.2.2.2.2.2.2.2.1), (490, r0.2.2.2.2.2.2.2.2.2.2.2.2.2.2.2.2.1), (491, r0.2.2.2.2.2.2.2.2.2.2.2.2.2.2.2.2.2)] [])), q_J g m_X3_goOn d mc ms h0 [471, 472] Q k n (4, [some (.ref 489), some (.ref 457), some (.int v2), some (.int v3), some (.int v4)], [], q_hp (t, r, m, 499, 529, ext, rx, L) I E) := by
  intro fu
  induction fu with
  | zero =>
    intro I E v3 v4 r0 hf hK0
    rw [f_X3_goOn_L4] at hf
    cases hf
  | succ fu ih =>
    intro I E v3 v4 r0 hf hK0
    rw [f_X3_goOn_L4] at hf
    change q_J g m_X3_goOn d mc ms h0 [471, 472] Q k n (q_kc (t, r, m, 499, 529, ext, rx, L) I E 4 [some (.ref 489), some (.ref 457), some (.int v2), some (.int v3), some (.int v4)] [] [] [])
    refine q_blf 2 [] (a := q_kc (t, r, m, 499, 529, ext, rx, L) I E 14 [some (.ref 489), some (.ref 457), some (.int v2), some (.int v3), some (.int v4)] [] [] []) (b := q_kc (t, r, m, 499, 529, ext, rx, L) I E 7 [some (.ref 489), some (.ref 457), some (.int v2), some (.int v3), some (.int v4)] [] [] []) (P := v2 ≤ v4) ok_X3_goOn rfl q_cn (fun h1 => ?_) (fun h1 => ?_)
    · have hf := q_ip h1 hf
      refine q_less (ls' := [none, none, none, some (.int v3), none]) (q_sb1 (q_sb1 (q_sb1 (q_sb2 (q_sb1 q_sb0))))) ?_
      cases hf
      exact q_Jpad [457, 459, 460, 461, 462, 463, 464, 465, 466, 467, 468, 469, 470, 471, 472, 490, 491] [] rfl rfl hK0
    · have hf := q_in h1 hf
      refine q_blk 2 [] (c' := q_kc (t, r, m, 499, 529, ext, rx, L) I E 9 [some (.ref 489), some (.ref 457), some (.int v2), some (.int v3), some (.int v4)] [.ref 457, .ref 489] [] []) ok_X3_goOn rfl q_cn ?_
      obtain ⟨r2, hr2, hf⟩ := q_bd hf
      refine q_kV (M2 := m_X3_passNext) (As := [.ref 457]) (b := 489) (v2 := some (.int (q_bz r2.1))) ok_X3_goOn ok_X3_passNext cv_X3_passNext (ct_X3_passNext_489_457 (d := 6) (Nat.le_refl _) hr2) rfl rfl (Or.inl rfl) rfl rfl rfl rfl (Nat.le_trans (Nat.le_of_ble_eq_true rfl) hd) hk hn (Nat.le_of_ble_eq_true rfl) (fun x hx => hx) rfl rfl rfl (pos' := 10) (st' := [.int (q_bz r2.1)]) (lI' := [(457, r2.2.1), (459, r2.2.2.1), (460, r2.2.2.2.1), (461, r2.2.2.2.2.1), (462, r2.2.2.2.2.2.1), (463, r2.2.2.2.2.2.2.1), (464, r2.2.2.2.2.2.2.2.1), (465, r2.2.2.2.2.2.2.2.2.1), (466, r2.2.2.2.2.2.2.2.2.2.1), (467, r2.2.2.2.2.2.2.2.2.2.2.1), (468, r2.2.2.2.2.2.2.2.2.2.2.2.1), (469, r2.2.2.2.2.2.2.2.2.2.2.2.2.1), (470, r2.2.2.2.2.2.2.2.2.2.2.2.2.2.1), (471, r2.2.2.2.2.2.2.2.2.2.2.2.2.2.2.1), (472, r2.2.2.2.2.2.2.2.2.2.2.2.2.2.2.2.1), (490, r2.2.2.2.2.2.2.2.2.2.2.2.2.2.2.2.2.1), (491, r2.2.2.2.2.2.2.2.2.2.2.2.2.2.2.2.2.2)]) (lE' := []) rfl rfl rfl rfl ?_
      refine q_blf 0 [] (a := q_kc (t, r, m, 499, 529, ext, rx, L) I E 12 [some (.ref 489), some (.ref 457), some (.int v2), some (.int v3), some (.int v4)] [] [(457, r2.2.1), (459, r2.2.2.1), (460, r2.2.2.2.1), (461, r2.2.2.2.2.1), (462, r2.2.2.2.2.2.1), (463, r2.2.2.2.2.2.2.1), (464, r2.2.2.2.2.2.2.2.1), (465, r2.2.2.2.2.2.2.2.2.1), (466, r2.2.2.2.2.2.2.2.2.2.1), (467, r2.2.2.2.2.2.2.2.2.2.2.1), (468, r2.2.2.2.2.2.2.2.2.2.2.2.1), (469, r2.2.2.2.2.2.2.2.2.2.2.2.2.1), (470, r2.2.2.2.2.2.2.2.2.2.2.2.2.2.1), (471, r2.2.2.2.2.2.2.2.2.2.2.2.2.2.2.1), (472, r2.2.2.2.2.2.2.2.2.2.2.2.2.2.2.2.1), (490, r2.2.2.2.2.2.2.2.2.2.2.2.2.2.2.2.2.1), (491, r2.2.2.2.2.2.2.2.2.2.2.2.2.2.2.2.2.2)] []) (b := q_kc (t, r, m, 499, 529, ext, rx, L) I E 11 [some (.ref 489), some (.ref 457), some (.int v2), some (.int v3), some (.int v4)] [] [(457, r2.2.1), (459, r2.2.2.1), (460, r2.2.2.2.1), (461, r2.2.2.2.2.1), (462, r2.2.2.2.2.2.1), (463, r2.2.2.2.2.2.2.1), (464, r2.2.2.2.2.2.2.2.1), (465, r2.2.2.2.2.2.2.2.2.1), (466, r2.2.2.2.2.2.2.2.2.2.1), (467, r2.2.2.2.2.2.2.2.2.2.2.1), (468, r2.2.2.2.2.2.2.2.2.2.2.2.1), (469, r2.2.2.2.2.2.2.2.2.2.2.2.2.1), (470, r2.2.2.2.2.2.2.2.2.2.2.2.2.2.1), (471, r2.2.2.2.2.2.2.2.2.2.2.2.2.2.2.1), (472, r2.2.2.2.2.2.2.2.2.2.2.2.2.2.2.2.1), (490, r2.2.2.2.2.2.2.2.2.2.2.2.2.2.2.2.2.1), (491, r2.2.2.2.2.2.2.2.2.2.2.2.2.2.2.2.2.2)] []) (P := (q_bz r2.1) = 0) ok_X3_goOn rfl q_cn (fun h3 => ?_) (fun h3 => ?_)
      · have hf := q_ip h3 hf
        refine q_blk 2 [] (c' := q_kc (t, r, m, 499, 529, ext, rx, L) I E 4 [some (.ref 489), some (.ref 457), some (.int v2), some (.int v3), some (.int (v4 + 1))] [] [(457, r2.2.1), (459, r2.2.2.1), (460, r2.2.2.2.1), (461, r2.2.2.2.2.1), (462, r2.2.2.2.2.2.1), (463, r2.2.2.2.2.2.2.1), (464, r2.2.2.2.2.2.2.2.1), (465, r2.2.2.2.2.2.2.2.2.1), (466, r2.2.2.2.2.2.2.2.2.2.1), (467, r2.2.2.2.2.2.2.2.2.2.2.1), (468, r2.2.2.2.2.2.2.2.2.2.2.2.1), (469, r2.2.2.2.2.2.2.2.2.2.2.2.2.1), (470, r2.2.2.2.2.2.2.2.2.2.2.2.2.2.1), (471, r2.2.2.2.2.2.2.2.2.2.2.2.2.2.2.1), (472, r2.2.2.2.2.2.2.2.2.2.2.2.2.2.2.2.1), (490, r2.2.2.2.2.2.2.2.2.2.2.2.2.2.2.2.2.1), (491, r2.2.2.2.2.2.2.2.2.2.2.2.2.2.2.2.2.2)] []) ok_X3_goOn rfl q_cn ?_
        exact ih (I := q_ws I [(457, r2.2.1), (459, r2.2.2.1), (460, r2.2.2.2.1), (461, r2.2.2.2.2.1), (462, r2.2.2.2.2.2.1), (463, r2.2.2.2.2.2.2.1), (464, r2.2.2.2.2.2.2.2.1), (465, r2.2.2.2.2.2.2.2.2.1), (466, r2.2.2.2.2.2.2.2.2.2.1), (467, r2.2.2.2.2.2.2.2.2.2.2.1), (468, r2.2.2.2.2.2.2.2.2.2.2.2.1), (469, r2.2.2.2.2.2.2.2.2.2.2.2.2.1), (470, r2.2.2.2.2.2.2.2.2.2.2.2.2.2.1), (471, r2.2.2.2.2.2.2.2.2.2.2.2.2.2.2.1), (472, r2.2.2.2.2.2.2.2.2.2.2.2.2.2.2.2.1), (490, r2.2.2.2.2.2.2.2.2.2.2.2.2.2.2.2.2.1), (491, r2.2.2.2.2.2.2.2.2.2.2.2.2.2.2.2.2.2)]) (E := q_ws E []) hf (q_Jmrg rfl rfl hK0)
      · have hf := q_in h3 hf
        refine q_blk 3 [] (c' := q_kc (t, r, m, 499, 529, ext, rx, L) I E 4 [some (.ref 489), some (.ref 457), some (.int v2), some (.int (v3 + 1)), some (.int (v4 + 1))] [] [(457, r2.2.1), (459, r2.2.2.1), (460, r2.2.2.2.1), (461, r2.2.2.2.2.1), (462, r2.2.2.2.2.2.1), (463, r2.2.2.2.2.2.2.1), (464, r2.2.2.2.2.2.2.2.1), (465, r2.2.2.2.2.2.2.2.2.1), (466, r2.2.2.2.2.2.2.2.2.2.1), (467, r2.2.2.2.2.2.2.2.2.2.2.1), (468, r2.2.2.2.2.2.2.2.2.2.2.2.1), (469, r2.2.2.2.2.2.2.2.2.2.2.2.2.1), (470, r2.2.2.2.2.2.2.2.2.2.2.2.2.2.1), (471, r2.2.2.2.2.2.2.2.2.2.2.2.2.2.2.1), (472, r2.2.2.2.2.2.2.2.2.2.2.2.2.2.2.2.1), (490, r2.2.2.2.2.2.2.2.2.2.2.2.2.2.2.2.2.1), (491, r2.2.2.2.2.2.2.2.2.2.2.2.2.2.2.2.2.2)] []) ok_X3_goOn rfl q_cn ?_
        exact ih (I := q_ws I [(457, r2.2.1), (459, r2.2.2.1), (460, r2.2.2.2.1), (461, r2.2.2.2.2.1), (462, r2.2.2.2.2.2.1), (463, r2.2.2.2.2.2.2.1), (464, r2.2.2.2.2.2.2.2.1), (465, r2.2.2.2.2.2.2.2.2.1), (466, r2.2.2.2.2.2.2.2.2.2.1), (467, r2.2.2.2.2.2.2.2.2.2.2.1), (468, r2.2.2.2.2.2.2.2.2.2.2.2.1), (469, r2.2.2.2.2.2.2.2.2.2.2.2.2.1), (470, r2.2.2.2.2.2.2.2.2.2.2.2.2.2.1), (471, r2.2.2.2.2.2.2.2.2.2.2.2.2.2.2.1), (472, r2.2.2.2.2.2.2.2.2.2.2.2.2.2.2.2.1), (490, r2.2.2.2.2.2.2.2.2.2.2.2.2.2.2.2.2.1), (491, r2.2.2.2.2.2.2.2.2.2.2.2.2.2.2.2.2.2)]) (E := q_ws E []) hf (q_Jmrg rfl rfl hK0)
set_option maxHeartbeats 4000000 in
theorem ct_X3_goOn_489_457 {g : q_G} {t : Nat} {r : Nat} {m : Nat} {ext : Nat → q_Sh} {rx : Nat → Nat → Option Nat} {L : Nat → Nat → Int64} {d : Nat} (hd : 7 ≤ d)  {I : Nat → Nat → Int32} {E : Nat → Nat → Option Nat} {x2 : Int32} {r0 : Int32 × (Nat → Int32) × (Nat → Int32) × (Nat → Int32) × (Nat → Int32) × (Nat → Int32) × (Nat → Int32) × (Nat → Int32) × (Nat → Int32) × (Nat → Int32) × (Nat → Int32) × (Nat → Int32) × (Nat → Int32) × (Nat → Int32) × (Nat → Int32) × (Nat → Int32) × (Nat → Int32) × (Nat → Int32)} (hf : f_X3_goOn (I 402) (I 405) (I 457) (I 459) (I 460) (I 461) (I 462) (I 463) (I 464) (I 465) (I 466) (I 467) (I 468) (I 469) (I 470) (I 471) (I 472) (I 490) (I 491) (E 404) (fun j => I (406 + j)) (fun j => E (406 + j)) x2 = some r0) : q_Ct g m_X3_goOn d 0 0 [471, 472] [.ref 489, .ref 457, .int x2] (q_hp (t, r, m, 499, 529, ext, rx, L) I E) (fun o h' => o = .inl (some (.int r0.1)) ∧ h' = q_hp (t, r, m, 499, 529, ext, rx, L) (q_ws I [(457, r0.2.1), (459, r0.2.2.1), (460, r0.2.2.2.1), (461, r0.2.2.2.2.1), (462, r0.2.2.2.2.2.1), (463, r0.2.2.2.2.2.2.1), (464, r0.2.2.2.2.2.2.2.1), (465, r0.2.2.2.2.2.2.2.2.1), (466, r0.2.2.2.2.2.2.2.2.2.1), (467, r0.2.2.2.2.2.2.2.2.2.2.1), (468, r0.2.2.2.2.2.2.2.2.2.2.2.1), (469, r0.2.2.2.2.2.2.2.2.2.2.2.2.1), (470, r0.2.2.2.2.2.2.2.2.2.2.2.2.2.1), (471, r0.2.2.2.2.2.2.2.2.2.2.2.2.2.2.1), (472, r0.2.2.2.2.2.2.2.2.2.2.2.2.2.2.2.1), (490, r0.2.2.2.2.2.2.2.2.2.2.2.2.2.2.2.2.1), (491, r0.2.2.2.2.2.2.2.2.2.2.2.2.2.2.2.2.2)]) (q_ws E [])) := by
  rw [f_X3_goOn] at hf
  refine q_Ct_of ok_X3_goOn (Nat.le_of_ble_eq_true rfl) ?_ _ rfl rfl
  change q_J g m_X3_goOn d 0 0 _ [471, 472] _ 0 0 (q_kc (t, r, m, 499, 529, ext, rx, L) I E 0 [some (.ref 489), some (.ref 457), some (.int x2), none, none] [] [] [])
  refine q_blk 4 [] (c' := q_kc (t, r, m, 499, 529, ext, rx, L) I E 4 [some (.ref 489), some (.ref 457), some (.int x2), some (.int (0 : Int32)), some (.int (0 : Int32))] [] [] []) ok_X3_goOn rfl q_cn ?_
  obtain ⟨r4, hr4, hf⟩ := q_bd hf
  refine lp_X3_goOn_L4_489_457 (I := q_ws I []) (E := q_ws E []) hd (Nat.le_of_ble_eq_true rfl) (Nat.le_of_ble_eq_true rfl) 4096 hr4 ?_
  refine q_Jmrg (lI' := [(457, r4.2.1), (459, r4.2.2.1), (460, r4.2.2.2.1), (461, r4.2.2.2.2.1), (462, r4.2.2.2.2.2.1), (463, r4.2.2.2.2.2.2.1), (464, r4.2.2.2.2.2.2.2.1), (465, r4.2.2.2.2.2.2.2.2.1), (466, r4.2.2.2.2.2.2.2.2.2.1), (467, r4.2.2.2.2.2.2.2.2.2.2.1), (468, r4.2.2.2.2.2.2.2.2.2.2.2.1), (469, r4.2.2.2.2.2.2.2.2.2.2.2.2.1), (470, r4.2.2.2.2.2.2.2.2.2.2.2.2.2.1), (471, r4.2.2.2.2.2.2.2.2.2.2.2.2.2.2.1), (472, r4.2.2.2.2.2.2.2.2.2.2.2.2.2.2.2.1), (490, r4.2.2.2.2.2.2.2.2.2.2.2.2.2.2.2.2.1), (491, r4.2.2.2.2.2.2.2.2.2.2.2.2.2.2.2.2.2)]) (lE' := []) rfl rfl ?_
  refine q_blk 1 [] (c' := q_kc (t, r, m, 499, 529, ext, rx, L) I E 15 [none, none, none, some (.int r4.1), none] [.int r4.1] [(457, r4.2.1), (459, r4.2.2.1), (460, r4.2.2.2.1), (461, r4.2.2.2.2.1), (462, r4.2.2.2.2.2.1), (463, r4.2.2.2.2.2.2.1), (464, r4.2.2.2.2.2.2.2.1), (465, r4.2.2.2.2.2.2.2.2.1), (466, r4.2.2.2.2.2.2.2.2.2.1), (467, r4.2.2.2.2.2.2.2.2.2.2.1), (468, r4.2.2.2.2.2.2.2.2.2.2.2.1), (469, r4.2.2.2.2.2.2.2.2.2.2.2.2.1), (470, r4.2.2.2.2.2.2.2.2.2.2.2.2.2.1), (471, r4.2.2.2.2.2.2.2.2.2.2.2.2.2.2.1), (472, r4.2.2.2.2.2.2.2.2.2.2.2.2.2.2.2.1), (490, r4.2.2.2.2.2.2.2.2.2.2.2.2.2.2.2.2.1), (491, r4.2.2.2.2.2.2.2.2.2.2.2.2.2.2.2.2.2)] []) ok_X3_goOn rfl q_cn ?_
  cases hf
  exact q_kri ok_X3_goOn rfl rfl rfl (Nat.le_of_ble_eq_true rfl) (Nat.le_of_ble_eq_true rfl) ⟨rfl, q_hpe (q_fin [457, 459, 460, 461, 462, 463, 464, 465, 466, 467, 468, 469, 470, 471, 472, 490, 491] rfl) (q_fin [] rfl)⟩
set_option maxHeartbeats 4000000 in
theorem ct_X12_work_400 {g : q_G} {t : Nat} {r : Nat} {m : Nat} {ext : Nat → q_Sh} {rx : Nat → Nat → Option Nat} {L : Nat → Nat → Int64} {d : Nat} (hd : 8 ≤ d)  {I : Nat → Nat → Int32} {E : Nat → Nat → Option Nat} {x1 : Int32} {r0 : (Int32 ⊕ String) × (Nat → Int32) × (Nat → Int32) × (Nat → Int32) × (Nat → Int32) × (Nat → Int32) × (Nat → Int32) × (Nat → Int32) × (Nat → Int32) × (Nat → Int32) × (Nat → Int32) × (Nat → Int32) × (Nat → Int32) × (Nat → Int32) × (Nat → Int32) × (Nat → Int32) × (Nat → Int32) × (Nat → Int32)} (hf : f_X12_work (I 402) (I 405) (I 457) (I 459) (I 460) (I 461) (I 462) (I 463) (I 464) (I 465) (I 466) (I 467) (I 468) (I 469) (I 470) (I 471) (I 472) (I 490) (I 491) (E 404) (fun j => I (406 + j)) (fun j => E (406 + j)) x1 = some r0) : q_Ct g m_X12_work d 2 12 [471, 472] [.ref 400, .int x1] (q_hp (t, r, m, 499, 529, ext, rx, L) I E) (fun o h' => o = q_oI r0.1 ∧ h' = q_hp (t, r, m, 499, 529, ext, rx, L) (q_ws I [(457, r0.2.1), (459, r0.2.2.1), (460, r0.2.2.2.1), (461, r0.2.2.2.2.1), (462, r0.2.2.2.2.2.1), (463, r0.2.2.2.2.2.2.1), (464, r0.2.2.2.2.2.2.2.1), (465, r0.2.2.2.2.2.2.2.2.1), (466, r0.2.2.2.2.2.2.2.2.2.1), (467, r0.2.2.2.2.2.2.2.2.2.2.1), (468, r0.2.2.2.2.2.2.2.2.2.2.2.1), (469, r0.2.2.2.2.2.2.2.2.2.2.2.2.1), (470, r0.2.2.2.2.2.2.2.2.2.2.2.2.2.1), (471, r0.2.2.2.2.2.2.2.2.2.2.2.2.2.2.1), (472, r0.2.2.2.2.2.2.2.2.2.2.2.2.2.2.2.1), (490, r0.2.2.2.2.2.2.2.2.2.2.2.2.2.2.2.2.1), (491, r0.2.2.2.2.2.2.2.2.2.2.2.2.2.2.2.2.2)]) (q_ws E [])) := by
  rw [f_X12_work] at hf
  refine q_Ct_of ok_X12_work (Nat.le_of_ble_eq_true rfl) ?_ _ rfl rfl
  change q_J g m_X12_work d 2 12 _ [471, 472] _ 0 0 (q_kc (t, r, m, 499, 529, ext, rx, L) I E 0 [some (.ref 400), some (.int x1)] [] [] [])
  refine q_blk 2 [] (c' := q_kc (t, r, m, 499, 529, ext, rx, L) I E 2 [some (.ref 400), some (.int x1)] [.int x1, .ref 400] [] []) ok_X12_work rfl q_cn ?_
  obtain ⟨r1, hr1, hf⟩ := q_bd hf
  cases hv4 : r1 with
  | inl v2 =>
    have hf := q_sm0 hv4 hf
    refine q_kV (M2 := m_X12_checkWork) (As := [.int x1]) (b := 400) (v2 := none) ok_X12_work ok_X12_checkWork cv_X12_checkWork (ct_X12_checkWork_400 (d := 6) (Nat.le_refl _) hr1) (q_oVl hv4) rfl (Or.inl rfl) rfl rfl rfl rfl (Nat.le_trans (Nat.le_of_ble_eq_true rfl) hd) (Nat.le_of_ble_eq_true rfl) (Nat.le_of_ble_eq_true rfl) (Nat.le_of_ble_eq_true rfl) (fun x hx => absurd hx List.not_mem_nil) (q_nmL0 _) (q_nmS0 _) rfl (pos' := 3) (st' := [.int r5.1]) (lI' := []) (lE' := []) rfl rfl rfl rfl ?_
    refine q_blk 5 [] (c' := q_kc (t, r, m, 499, 529, ext, rx, L) I E 8 [some (.ref 400), some (.int x1)] [.int x1, .ref 457, .ref 489] [] []) ok_X12_work rfl q_cn ?_
    refine q_less (ls' := [none, none]) (q_sb1 (q_sb1 q_sb0)) ?_
    obtain ⟨r5, hr5, hf⟩ := q_bd hf
    refine q_kV (M2 := m_X3_goOn) (As := [.ref 457, .int x1]) (b := 489) (v2 := some (.int r5.1)) ok_X12_work ok_X3_goOn cv_X3_goOn (ct_X3_goOn_489_457 (d := 7) (Nat.le_refl _) hr5) rfl rfl (Or.inl rfl) rfl rfl rfl rfl (Nat.le_trans (Nat.le_of_ble_eq_true rfl) hd) (Nat.le_of_ble_eq_true rfl) (Nat.le_of_ble_eq_true rfl) (Nat.le_of_ble_eq_true rfl) (fun x hx => hx) rfl rfl rfl (pos' := 9) (st' := [.int r5.1]) (lI' := [(457, r5.2.1), (459, r5.2.2.1), (460, r5.2.2.2.1), (461, r5.2.2.2.2.1), (462, r5.2.2.2.2.2.1), (463, r5.2.2.2.2.2.2.1), (464, r5.2.2.2.2.2.2.2.1), (465, r5.2.2.2.2.2.2.2.2.1), (466, r5.2.2.2.2.2.2.2.2.2.1), (467, r5.2.2.2.2.2.2.2.2.2.2.1), (468, r5.2.2.2.2.2.2.2.2.2.2.2.1), (469, r5.2.2.2.2.2.2.2.2.2.2.2.2.1), (470, r5.2.2.2.2.2.2.2.2.2.2.2.2.2.1), (471, r5.2.2.2.2.2.2.2.2.2.2.2.2.2.2.1), (472, r5.2.2.2.2.2.2.2.2.2.2.2.2.2.2.2.1), (490, r5.2.2.2.2.2.2.2.2.2.2.2.2.2.2.2.2.1), (491, r5.2.2.2.2.2.2.2.2.2.2.2.2.2.2.2.2.2)]) (lE' := []) rfl rfl rfl rfl ?_
    cases hf
    exact q_kri ok_X12_work rfl rfl rfl (Nat.le_of_ble_eq_true rfl) (Nat.le_of_ble_eq_true rfl) ⟨rfl, q_hpe (q_fin [457, 459, 460, 461, 462, 463, 464, 465, 466, 467, 468, 469, 470, 471, 472, 490, 491] rfl) (q_fin [] rfl)⟩
  | inr e3 =>
    have hf := q_sm1 hv4 hf
    cases hf
    refine q_kVx (M2 := m_X12_checkWork) (As := [.int x1]) (b := 400) ok_X12_work ok_X12_checkWork cv_X12_checkWork (ct_X12_checkWork_400 (d := 6) (Nat.le_refl _) hr1) (q_oVr hv4) rfl (Or.inl rfl) rfl rfl rfl rfl (Nat.le_trans (Nat.le_of_ble_eq_true rfl) hd) (Nat.le_of_ble_eq_true rfl) (Nat.le_of_ble_eq_true rfl) (Nat.le_of_ble_eq_true rfl) (fun x hx => absurd hx List.not_mem_nil) (q_nmL0 _) (q_nmS0 _) rfl (lI' := []) (lE' := []) rfl rfl ⟨rfl, q_hpe (q_fin [457, 459, 460, 461, 462, 463, 464, 465, 466, 467, 468, 469, 470, 471, 472, 490, 491] rfl) (q_fin [] rfl)⟩
set_option maxHeartbeats 4000000 in
theorem ct_X1_imitate_474_458 {g : q_G} {t : Nat} {r : Nat} {m : Nat} {z : Nat} {N : Nat} {ext : Nat → q_Sh} {rx : Nat → Nat → Option Nat} {L : Nat → Nat → Int64} {d : Nat} (hd : 2 ≤ d)  {I : Nat → Nat → Int32} {E : Nat → Nat → Option Nat} {r0 : (Nat → Int32) × (Nat → Int32) × (Nat → Int32) × (Nat → Int32) × (Nat → Int32) × (Nat → Int32)} (hf : f_X1_imitate (I 459) (I 460) (I 461) (I 462) (I 463) (I 464) (I 475) (I 476) (I 477) (I 478) (I 479) (I 480) = some r0) : q_Ct g m_X1_imitate d 0 0 [] [.ref 474, .ref 458] (q_hp (t, r, m, z, N, ext, rx, L) I E) (fun o h' => o = .inl none ∧ h' = q_hp (t, r, m, z, N, ext, rx, L) (q_ws I [(475, r0.1), (476, r0.2.1), (477, r0.2.2.1), (478, r0.2.2.2.1), (479, r0.2.2.2.2.1), (480, r0.2.2.2.2.2)]) (q_ws E [])) := by
  rw [f_X1_imitate] at hf
  refine q_Ct_of ok_X1_imitate (Nat.le_of_ble_eq_true rfl) ?_ _ rfl rfl
  change q_J g m_X1_imitate d 0 0 _ [] _ 0 0 (q_kc (t, r, m, z, N, ext, rx, L) I E 0 [some (.ref 474), some (.ref 458)] [] [] [])
  refine q_blk 7 [] (c' := q_kc (t, r, m, z, N, ext, rx, L) I E 7 [some (.ref 474), some (.ref 458)] [.int (128 : Int32), .int (0 : Int32), .ref 475, .int (0 : Int32), .ref 459] [] []) ok_X1_imitate rfl q_cn ?_
  refine q_kcp (c := 128) (pos' := 8) (lI' := [(475, (q_cp (I 459) (I 475) 128))]) ok_X1_imitate rfl rfl (Nat.le_trans (Nat.le_of_ble_eq_true rfl) hd) (Nat.le_of_ble_eq_true rfl) rfl rfl rfl rfl rfl rfl rfl rfl rfl rfl ?_
  refine q_blk 7 [] (c' := q_kc (t, r, m, z, N, ext, rx, L) I E 15 [some (.ref 474), some (.ref 458)] [.int (128 : Int32), .int (0 : Int32), .ref 476, .int (0 : Int32), .ref 460] [(475, (q_cp (I 459) (I 475) 128))] []) ok_X1_imitate rfl q_cn ?_
  refine q_kcp (c := 128) (pos' := 16) (lI' := [(475, (q_cp (I 459) (I 475) 128)), (476, (q_cp (I 460) (I 476) 128))]) ok_X1_imitate rfl rfl (Nat.le_trans (Nat.le_of_ble_eq_true rfl) hd) (Nat.le_of_ble_eq_true rfl) rfl rfl rfl rfl rfl rfl rfl rfl rfl rfl ?_
  refine q_blk 7 [] (c' := q_kc (t, r, m, z, N, ext, rx, L) I E 23 [some (.ref 474), some (.ref 458)] [.int (128 : Int32), .int (0 : Int32), .ref 477, .int (0 : Int32), .ref 461] [(475, (q_cp (I 459) (I 475) 128)), (476, (q_cp (I 460) (I 476) 128))] []) ok_X1_imitate rfl q_cn ?_
  refine q_kcp (c := 128) (pos' := 24) (lI' := [(475, (q_cp (I 459) (I 475) 128)), (476, (q_cp (I 460) (I 476) 128)), (477, (q_cp (I 461) (I 477) 128))]) ok_X1_imitate rfl rfl (Nat.le_trans (Nat.le_of_ble_eq_true rfl) hd) (Nat.le_of_ble_eq_true rfl) rfl rfl rfl rfl rfl rfl rfl rfl rfl rfl ?_
  refine q_blk 7 [] (c' := q_kc (t, r, m, z, N, ext, rx, L) I E 31 [some (.ref 474), some (.ref 458)] [.int (128 : Int32), .int (0 : Int32), .ref 478, .int (0 : Int32), .ref 462] [(475, (q_cp (I 459) (I 475) 128)), (476, (q_cp (I 460) (I 476) 128)), (477, (q_cp (I 461) (I 477) 128))] []) ok_X1_imitate rfl q_cn ?_
  refine q_kcp (c := 128) (pos' := 32) (lI' := [(475, (q_cp (I 459) (I 475) 128)), (476, (q_cp (I 460) (I 476) 128)), (477, (q_cp (I 461) (I 477) 128)), (478, (q_cp (I 462) (I 478) 128))]) ok_X1_imitate rfl rfl (Nat.le_trans (Nat.le_of_ble_eq_true rfl) hd) (Nat.le_of_ble_eq_true rfl) rfl rfl rfl rfl rfl rfl rfl rfl rfl rfl ?_
  refine q_blk 7 [] (c' := q_kc (t, r, m, z, N, ext, rx, L) I E 39 [some (.ref 474), some (.ref 458)] [.int (128 : Int32), .int (0 : Int32), .ref 479, .int (0 : Int32), .ref 463] [(475, (q_cp (I 459) (I 475) 128)), (476, (q_cp (I 460) (I 476) 128)), (477, (q_cp (I 461) (I 477) 128)), (478, (q_cp (I 462) (I 478) 128))] []) ok_X1_imitate rfl q_cn ?_
  refine q_kcp (c := 128) (pos' := 40) (lI' := [(475, (q_cp (I 459) (I 475) 128)), (476, (q_cp (I 460) (I 476) 128)), (477, (q_cp (I 461) (I 477) 128)), (478, (q_cp (I 462) (I 478) 128)), (479, (q_cp (I 463) (I 479) 128))]) ok_X1_imitate rfl rfl (Nat.le_trans (Nat.le_of_ble_eq_true rfl) hd) (Nat.le_of_ble_eq_true rfl) rfl rfl rfl rfl rfl rfl rfl rfl rfl rfl ?_
  refine q_blk 7 [] (c' := q_kc (t, r, m, z, N, ext, rx, L) I E 47 [some (.ref 474), some (.ref 458)] [.int (384 : Int32), .int (0 : Int32), .ref 480, .int (0 : Int32), .ref 464] [(475, (q_cp (I 459) (I 475) 128)), (476, (q_cp (I 460) (I 476) 128)), (477, (q_cp (I 461) (I 477) 128)), (478, (q_cp (I 462) (I 478) 128)), (479, (q_cp (I 463) (I 479) 128))] []) ok_X1_imitate rfl q_cn ?_
  refine q_kcp (c := 384) (pos' := 48) (lI' := [(475, (q_cp (I 459) (I 475) 128)), (476, (q_cp (I 460) (I 476) 128)), (477, (q_cp (I 461) (I 477) 128)), (478, (q_cp (I 462) (I 478) 128)), (479, (q_cp (I 463) (I 479) 128)), (480, (q_cp (I 464) (I 480) 384))]) ok_X1_imitate rfl rfl (Nat.le_trans (Nat.le_of_ble_eq_true rfl) hd) (Nat.le_of_ble_eq_true rfl) rfl rfl rfl rfl rfl rfl rfl rfl rfl rfl ?_
  cases hf
  exact q_krv ok_X1_imitate rfl rfl (Nat.le_of_ble_eq_true rfl) (Nat.le_of_ble_eq_true rfl) ⟨rfl, q_hpe (q_fin [475, 476, 477, 478, 479, 480] rfl) (q_fin [] rfl)⟩
set_option maxHeartbeats 4000000 in
theorem ct_X5_imitate_481_465 {g : q_G} {t : Nat} {r : Nat} {m : Nat} {z : Nat} {N : Nat} {ext : Nat → q_Sh} {rx : Nat → Nat → Option Nat} {L : Nat → Nat → Int64} {d : Nat} (hd : 2 ≤ d)  {I : Nat → Nat → Int32} {E : Nat → Nat → Option Nat} {r0 : (Nat → Int32) × (Nat → Int32)} (hf : f_X5_imitate (I 465) (I 466) (I 481) (I 482) = some r0) : q_Ct g m_X5_imitate d 0 0 [] [.ref 481, .ref 465] (q_hp (t, r, m, z, N, ext, rx, L) I E) (fun o h' => o = .inl none ∧ h' = q_hp (t, r, m, z, N, ext, rx, L) (q_ws I [(481, r0.1), (482, r0.2)]) (q_ws E [])) := by
  rw [f_X5_imitate] at hf
  refine q_Ct_of ok_X5_imitate (Nat.le_of_ble_eq_true rfl) ?_ _ rfl rfl
  change q_J g m_X5_imitate d 0 0 _ [] _ 0 0 (q_kc (t, r, m, z, N, ext, rx, L) I E 0 [some (.ref 481), some (.ref 465)] [] [] [])
  refine q_blk 7 [] (c' := q_kc (t, r, m, z, N, ext, rx, L) I E 7 [some (.ref 481), some (.ref 465)] [.int (64 : Int32), .int (0 : Int32), .ref 482, .int (0 : Int32), .ref 466] [] []) ok_X5_imitate rfl q_cn ?_
  refine q_kcp (c := 64) (pos' := 8) (lI' := [(482, (q_cp (I 466) (I 482) 64))]) ok_X5_imitate rfl rfl (Nat.le_trans (Nat.le_of_ble_eq_true rfl) hd) (Nat.le_of_ble_eq_true rfl) rfl rfl rfl rfl rfl rfl rfl rfl rfl rfl ?_
  refine q_blk 8 [] (c' := q_kc (t, r, m, z, N, ext, rx, L) I E 16 [some (.ref 481), some (.ref 465)] [] [(481, (q_up (q_up (I 481) 1 ((I 465) 1)) 2 ((I 465) 2))), (482, (q_cp (I 466) (I 482) 64))] []) ok_X5_imitate rfl q_cn ?_
  cases hf
  exact q_krv ok_X5_imitate rfl rfl (Nat.le_of_ble_eq_true rfl) (Nat.le_of_ble_eq_true rfl) ⟨rfl, q_hpe (q_fin [481, 482] rfl) (q_fin [] rfl)⟩
set_option maxHeartbeats 4000000 in
theorem ct_X2_imitate_473_457 {g : q_G} {t : Nat} {r : Nat} {m : Nat} {z : Nat} {N : Nat} {ext : Nat → q_Sh} {rx : Nat → Nat → Option Nat} {L : Nat → Nat → Int64} {d : Nat} (hd : 3 ≤ d)  {I : Nat → Nat → Int32} {E : Nat → Nat → Option Nat} {r0 : (Nat → Int32) × (Nat → Int32) × (Nat → Int32) × (Nat → Int32) × (Nat → Int32) × (Nat → Int32) × (Nat → Int32) × (Nat → Int32) × (Nat → Int32) × (Nat → Int32) × (Nat → Int32)} (hf : f_X2_imitate (I 457) (I 459) (I 460) (I 461) (I 462) (I 463) (I 464) (I 465) (I 466) (I 470) (I 471) (I 473) (I 475) (I 476) (I 477) (I 478) (I 479) (I 480) (I 481) (I 482) (I 486) (I 487) = some r0) : q_Ct g m_X2_imitate d 0 0 [] [.ref 473, .ref 457] (q_hp (t, r, m, z, N, ext, rx, L) I E) (fun o h' => o = .inl none ∧ h' = q_hp (0, r, m, z, N, ext, rx, L) (q_ws I [(473, r0.1), (475, r0.2.1), (476, r0.2.2.1), (477, r0.2.2.2.1), (478, r0.2.2.2.2.1), (479, r0.2.2.2.2.2.1), (480, r0.2.2.2.2.2.2.1), (481, r0.2.2.2.2.2.2.2.1), (482, r0.2.2.2.2.2.2.2.2.1), (486, r0.2.2.2.2.2.2.2.2.2.1), (487, r0.2.2.2.2.2.2.2.2.2.2)]) (q_ws E [])) := by
  rw [f_X2_imitate] at hf
  refine q_Ct_of ok_X2_imitate (Nat.le_of_ble_eq_true rfl) ?_ _ rfl rfl
  change q_J g m_X2_imitate d 0 0 _ [] _ 0 0 (q_kc (t, r, m, z, N, ext, rx, L) I E 0 [some (.ref 473), some (.ref 457)] [] [] [])
  refine q_blk 3 [] (c' := q_kc (t, r, m, z, N, ext, rx, L) I E 3 [some (.ref 473), some (.ref 457)] [.ref 402, .ref 473] [] []) ok_X2_imitate rfl q_cn ?_
  refine q_kp9 (pos' := 4) (X2 := (0, r, m, z, N, ext, rx, L)) ok_X2_imitate rfl rfl rfl rfl (q_oth_of (by decide +kernel)) (q_shX_t _ _ _ _) (q_u2_id rfl) rfl rfl rfl ?_
  refine q_blk 4 [] (c' := q_kc (0, r, m, z, N, ext, rx, L) I E 8 [some (.ref 473), some (.ref 457)] [.ref 458, .ref 474] [] []) ok_X2_imitate rfl q_cn ?_
  obtain ⟨r1, hr1, hf⟩ := q_bd hf
  refine q_kV (M2 := m_X1_imitate) (As := [.ref 458]) (b := 474) (v2 := none) ok_X2_imitate ok_X1_imitate cv_X1_imitate (ct_X1_imitate_474_458 (d := 2) (Nat.le_refl _) hr1) rfl rfl (Or.inl rfl) rfl rfl rfl rfl (Nat.le_trans (Nat.le_of_ble_eq_true rfl) hd) (Nat.le_of_ble_eq_true rfl) (Nat.le_of_ble_eq_true rfl) (Nat.le_of_ble_eq_true rfl) (fun x hx => absurd hx List.not_mem_nil) (q_nmL0 _) (q_nmS0 _) rfl (pos' := 9) (st' := []) (lI' := [(475, r1.1), (476, r1.2.1), (477, r1.2.2.1), (478, r1.2.2.2.1), (479, r1.2.2.2.2.1), (480, r1.2.2.2.2.2)]) (lE' := []) rfl rfl rfl rfl ?_
  refine q_blk 4 [] (c' := q_kc (0, r, m, z, N, ext, rx, L) I E 13 [some (.ref 473), some (.ref 457)] [.ref 465, .ref 481] [(475, r1.1), (476, r1.2.1), (477, r1.2.2.1), (478, r1.2.2.2.1), (479, r1.2.2.2.2.1), (480, r1.2.2.2.2.2)] []) ok_X2_imitate rfl q_cn ?_
  obtain ⟨r2, hr2, hf⟩ := q_bd hf
  refine q_kV (M2 := m_X5_imitate) (As := [.ref 465]) (b := 481) (v2 := none) ok_X2_imitate ok_X5_imitate cv_X5_imitate (ct_X5_imitate_481_465 (d := 2) (Nat.le_refl _) hr2) rfl rfl (Or.inl rfl) rfl rfl rfl rfl (Nat.le_trans (Nat.le_of_ble_eq_true rfl) hd) (Nat.le_of_ble_eq_true rfl) (Nat.le_of_ble_eq_true rfl) (Nat.le_of_ble_eq_true rfl) (fun x hx => absurd hx List.not_mem_nil) (q_nmL0 _) (q_nmS0 _) rfl (pos' := 14) (st' := []) (lI' := [(475, r1.1), (476, r1.2.1), (477, r1.2.2.1), (478, r1.2.2.2.1), (479, r1.2.2.2.2.1), (480, r1.2.2.2.2.2), (481, r2.1), (482, r2.2)]) (lE' := []) rfl rfl rfl rfl ?_
  refine q_blk 7 [] (c' := q_kc (0, r, m, z, N, ext, rx, L) I E 21 [some (.ref 473), some (.ref 457)] [.int (6 : Int32), .int (0 : Int32), .ref 486, .int (0 : Int32), .ref 470] [(475, r1.1), (476, r1.2.1), (477, r1.2.2.1), (478, r1.2.2.2.1), (479, r1.2.2.2.2.1), (480, r1.2.2.2.2.2), (481, r2.1), (482, r2.2)] []) ok_X2_imitate rfl q_cn ?_
  refine q_kcp (c := 6) (pos' := 22) (lI' := [(475, r1.1), (476, r1.2.1), (477, r1.2.2.1), (478, r1.2.2.2.1), (479, r1.2.2.2.2.1), (480, r1.2.2.2.2.2), (481, r2.1), (482, r2.2), (486, (q_cp (I 470) (I 486) 6))]) ok_X2_imitate rfl rfl (Nat.le_trans (Nat.le_of_ble_eq_true rfl) hd) (Nat.le_of_ble_eq_true rfl) rfl rfl rfl rfl rfl rfl rfl rfl rfl rfl ?_
  refine q_blk 7 [] (c' := q_kc (0, r, m, z, N, ext, rx, L) I E 29 [some (.ref 473), some (.ref 457)] [.int (64 : Int32), .int (0 : Int32), .ref 487, .int (0 : Int32), .ref 471] [(475, r1.1), (476, r1.2.1), (477, r1.2.2.1), (478, r1.2.2.2.1), (479, r1.2.2.2.2.1), (480, r1.2.2.2.2.2), (481, r2.1), (482, r2.2), (486, (q_cp (I 470) (I 486) 6))] []) ok_X2_imitate rfl q_cn ?_
  refine q_kcp (c := 64) (pos' := 30) (lI' := [(475, r1.1), (476, r1.2.1), (477, r1.2.2.1), (478, r1.2.2.2.1), (479, r1.2.2.2.2.1), (480, r1.2.2.2.2.2), (481, r2.1), (482, r2.2), (486, (q_cp (I 470) (I 486) 6)), (487, (q_cp (I 471) (I 487) 64))]) ok_X2_imitate rfl rfl (Nat.le_trans (Nat.le_of_ble_eq_true rfl) hd) (Nat.le_of_ble_eq_true rfl) rfl rfl rfl rfl rfl rfl rfl rfl rfl rfl ?_
  refine q_blk 32 [] (c' := q_kc (0, r, m, z, N, ext, rx, L) I E 62 [some (.ref 473), some (.ref 457)] [] [(473, (q_up (q_up (q_up (q_up (q_up (q_up (q_up (q_up (I 473) 7 ((I 457) 7)) 8 ((I 457) 8)) 9 ((I 457) 9)) 10 ((I 457) 10)) 11 ((I 457) 11)) 12 ((I 457) 12)) 13 ((I 457) 13)) 14 ((I 457) 14))), (475, r1.1), (476, r1.2.1), (477, r1.2.2.1), (478, r1.2.2.2.1), (479, r1.2.2.2.2.1), (480, r1.2.2.2.2.2), (481, r2.1), (482, r2.2), (486, (q_cp (I 470) (I 486) 6)), (487, (q_cp (I 471) (I 487) 64))] []) ok_X2_imitate rfl q_cn ?_
  cases hf
  exact q_krv ok_X2_imitate rfl rfl (Nat.le_of_ble_eq_true rfl) (Nat.le_of_ble_eq_true rfl) ⟨rfl, q_hpe (q_fin [473, 475, 476, 477, 478, 479, 480, 481, 482, 486, 487] rfl) (q_fin [] rfl)⟩
set_option maxHeartbeats 4000000 in
theorem ct_X2_freePlaces_473 {g : q_G} {r : Nat} {m : Nat} {z : Nat} {N : Nat} {ext : Nat → q_Sh} {rx : Nat → Nat → Option Nat} {L : Nat → Nat → Int64} {d : Nat} (hd : 1 ≤ d)  {I : Nat → Nat → Int32} {E : Nat → Nat → Option Nat} {r0 : Int32} (hf : f_X2_freePlaces (I 402) (I 473) = some r0) : q_Ct g m_X2_freePlaces d 0 0 [] [.ref 473] (q_hp (0, r, m, z, N, ext, rx, L) I E) (fun o h' => o = .inl (some (.int r0)) ∧ h' = q_hp (0, r, m, z, N, ext, rx, L) (q_ws I []) (q_ws E [])) := by
  rw [f_X2_freePlaces] at hf
  refine q_Ct_of ok_X2_freePlaces (Nat.le_of_ble_eq_true rfl) ?_ _ rfl rfl
  change q_J g m_X2_freePlaces d 0 0 _ [] _ 0 0 (q_kc (0, r, m, z, N, ext, rx, L) I E 0 [some (.ref 473)] [] [] [])
  refine q_blk 6 [] (c' := q_kc (0, r, m, z, N, ext, rx, L) I E 6 [some (.ref 473)] [.int (((I 402) 0) - ((I 473) 8))] [] []) ok_X2_freePlaces rfl q_cn ?_
  cases hf
  exact q_kri ok_X2_freePlaces rfl rfl rfl (Nat.le_of_ble_eq_true rfl) (Nat.le_of_ble_eq_true rfl) ⟨rfl, q_hpe (q_fin [] rfl) (q_fin [] rfl)⟩
set_option maxHeartbeats 4000000 in
theorem ct_X2_baleCount_473 {g : q_G} {t : Nat} {r : Nat} {m : Nat} {z : Nat} {N : Nat} {ext : Nat → q_Sh} {rx : Nat → Nat → Option Nat} {L : Nat → Nat → Int64} {d : Nat} (hd : 1 ≤ d)  {I : Nat → Nat → Int32} {E : Nat → Nat → Option Nat} {r0 : Int32} (hf : f_X2_baleCount (I 473) (I 481) = some r0) : q_Ct g m_X2_baleCount d 0 0 [] [.ref 473] (q_hp (t, r, m, z, N, ext, rx, L) I E) (fun o h' => o = .inl (some (.int r0)) ∧ h' = q_hp (t, r, m, z, N, ext, rx, L) (q_ws I []) (q_ws E [])) := by
  rw [f_X2_baleCount] at hf
  refine q_Ct_of ok_X2_baleCount (Nat.le_of_ble_eq_true rfl) ?_ _ rfl rfl
  change q_J g m_X2_baleCount d 0 0 _ [] _ 0 0 (q_kc (t, r, m, z, N, ext, rx, L) I E 0 [some (.ref 473)] [] [] [])
  refine q_blk 6 [] (c' := q_kc (t, r, m, z, N, ext, rx, L) I E 6 [some (.ref 473)] [.int (((I 473) 7) + ((I 481) 2))] [] []) ok_X2_baleCount rfl q_cn ?_
  cases hf
  exact q_kri ok_X2_baleCount rfl rfl rfl (Nat.le_of_ble_eq_true rfl) (Nat.le_of_ble_eq_true rfl) ⟨rfl, q_hpe (q_fin [] rfl) (q_fin [] rfl)⟩
set_option maxHeartbeats 4000000 in
theorem ct_X2_held_473 {g : q_G} {t : Nat} {r : Nat} {m : Nat} {z : Nat} {N : Nat} {ext : Nat → q_Sh} {rx : Nat → Nat → Option Nat} {L : Nat → Nat → Int64} {d : Nat} (hd : 1 ≤ d)  {I : Nat → Nat → Int32} {E : Nat → Nat → Option Nat} {x1 : Int32} {r0 : Int32} (hf : f_X2_held (I 486) x1 = some r0) : q_Ct g m_X2_held d 0 0 [] [.ref 473, .int x1] (q_hp (t, r, m, z, N, ext, rx, L) I E) (fun o h' => o = .inl (some (.int r0)) ∧ h' = q_hp (t, r, m, z, N, ext, rx, L) (q_ws I []) (q_ws E [])) := by
  rw [f_X2_held] at hf
  refine q_Ct_of ok_X2_held (Nat.le_of_ble_eq_true rfl) ?_ _ rfl rfl
  change q_J g m_X2_held d 0 0 _ [] _ 0 0 (q_kc (t, r, m, z, N, ext, rx, L) I E 0 [some (.ref 473), some (.int x1)] [] [] [])
  refine q_blf 1 [] (a := q_kc (t, r, m, z, N, ext, rx, L) I E 10 [some (.ref 473), some (.int x1)] [] [] []) (b := q_kc (t, r, m, z, N, ext, rx, L) I E 2 [some (.ref 473), some (.int x1)] [] [] []) (P := x1 < 0) ok_X2_held rfl q_cn (fun h1 => ?_) (fun h1 => ?_)
  · have hf := q_ip h1 hf
    refine q_blk 1 [] (c' := q_kc (t, r, m, z, N, ext, rx, L) I E 11 [some (.ref 473), some (.int x1)] [.int (-1 : Int32)] [] []) ok_X2_held rfl q_cn ?_
    cases hf
    exact q_kri ok_X2_held rfl rfl rfl (Nat.le_of_ble_eq_true rfl) (Nat.le_of_ble_eq_true rfl) ⟨rfl, q_hpe (q_fin [] rfl) (q_fin [] rfl)⟩
  · have hf := q_in h1 hf
    refine q_blf 2 [] (a := q_kc (t, r, m, z, N, ext, rx, L) I E 10 [some (.ref 473), some (.int x1)] [] [] []) (b := q_kc (t, r, m, z, N, ext, rx, L) I E 5 [some (.ref 473), some (.int x1)] [] [] []) (P := (6 : Int32) ≤ x1) ok_X2_held rfl q_cn (fun h2 => ?_) (fun h2 => ?_)
    · have hf := q_ip h2 hf
      refine q_blk 1 [] (c' := q_kc (t, r, m, z, N, ext, rx, L) I E 11 [some (.ref 473), some (.int x1)] [.int (-1 : Int32)] [] []) ok_X2_held rfl q_cn ?_
      cases hf
      exact q_kri ok_X2_held rfl rfl rfl (Nat.le_of_ble_eq_true rfl) (Nat.le_of_ble_eq_true rfl) ⟨rfl, q_hpe (q_fin [] rfl) (q_fin [] rfl)⟩
    · have hf := q_in h2 hf
      obtain ⟨j3, hj3, hf⟩ := q_bd hf
      refine q_blk 5 [j3] (c' := q_kc (t, r, m, z, N, ext, rx, L) I E 11 [some (.ref 473), some (.int x1)] [.int ((I 486) j3)] [] []) ok_X2_held rfl (q_cc hj3 q_cn) ?_
      cases hf
      exact q_kri ok_X2_held rfl rfl rfl (Nat.le_of_ble_eq_true rfl) (Nat.le_of_ble_eq_true rfl) ⟨rfl, q_hpe (q_fin [] rfl) (q_fin [] rfl)⟩
set_option maxHeartbeats 4000000 in
theorem ct_X1_size_474 {g : q_G} {t : Nat} {r : Nat} {m : Nat} {z : Nat} {N : Nat} {ext : Nat → q_Sh} {rx : Nat → Nat → Option Nat} {L : Nat → Nat → Int64} {d : Nat} (hd : 1 ≤ d)  {I : Nat → Nat → Int32} {E : Nat → Nat → Option Nat} {x1 : Int32} {r0 : Int32} (hf : f_X1_size (I 477) x1 = some r0) : q_Ct g m_X1_size d 0 0 [] [.ref 474, .int x1] (q_hp (t, r, m, z, N, ext, rx, L) I E) (fun o h' => o = .inl (some (.int r0)) ∧ h' = q_hp (t, r, m, z, N, ext, rx, L) (q_ws I []) (q_ws E [])) := by
  rw [f_X1_size] at hf
  refine q_Ct_of ok_X1_size (Nat.le_of_ble_eq_true rfl) ?_ _ rfl rfl
  change q_J g m_X1_size d 0 0 _ [] _ 0 0 (q_kc (t, r, m, z, N, ext, rx, L) I E 0 [some (.ref 474), some (.int x1)] [] [] [])
  refine q_blf 1 [] (a := q_kc (t, r, m, z, N, ext, rx, L) I E 10 [some (.ref 474), some (.int x1)] [] [] []) (b := q_kc (t, r, m, z, N, ext, rx, L) I E 2 [some (.ref 474), some (.int x1)] [] [] []) (P := x1 < 0) ok_X1_size rfl q_cn (fun h1 => ?_) (fun h1 => ?_)
  · have hf := q_ip h1 hf
    refine q_blk 1 [] (c' := q_kc (t, r, m, z, N, ext, rx, L) I E 11 [some (.ref 474), some (.int x1)] [.int (0 : Int32)] [] []) ok_X1_size rfl q_cn ?_
    cases hf
    exact q_kri ok_X1_size rfl rfl rfl (Nat.le_of_ble_eq_true rfl) (Nat.le_of_ble_eq_true rfl) ⟨rfl, q_hpe (q_fin [] rfl) (q_fin [] rfl)⟩
  · have hf := q_in h1 hf
    refine q_blf 2 [] (a := q_kc (t, r, m, z, N, ext, rx, L) I E 10 [some (.ref 474), some (.int x1)] [] [] []) (b := q_kc (t, r, m, z, N, ext, rx, L) I E 5 [some (.ref 474), some (.int x1)] [] [] []) (P := (128 : Int32) ≤ x1) ok_X1_size rfl q_cn (fun h2 => ?_) (fun h2 => ?_)
    · have hf := q_ip h2 hf
      refine q_blk 1 [] (c' := q_kc (t, r, m, z, N, ext, rx, L) I E 11 [some (.ref 474), some (.int x1)] [.int (0 : Int32)] [] []) ok_X1_size rfl q_cn ?_
      cases hf
      exact q_kri ok_X1_size rfl rfl rfl (Nat.le_of_ble_eq_true rfl) (Nat.le_of_ble_eq_true rfl) ⟨rfl, q_hpe (q_fin [] rfl) (q_fin [] rfl)⟩
    · have hf := q_in h2 hf
      obtain ⟨j3, hj3, hf⟩ := q_bd hf
      refine q_blk 5 [j3] (c' := q_kc (t, r, m, z, N, ext, rx, L) I E 11 [some (.ref 474), some (.int x1)] [.int ((I 477) j3)] [] []) ok_X1_size rfl (q_cc hj3 q_cn) ?_
      cases hf
      exact q_kri ok_X1_size rfl rfl rfl (Nat.le_of_ble_eq_true rfl) (Nat.le_of_ble_eq_true rfl) ⟨rfl, q_hpe (q_fin [] rfl) (q_fin [] rfl)⟩
set_option maxHeartbeats 4000000 in
theorem ct_X1_age_474 {g : q_G} {t : Nat} {r : Nat} {m : Nat} {z : Nat} {N : Nat} {ext : Nat → q_Sh} {rx : Nat → Nat → Option Nat} {L : Nat → Nat → Int64} {d : Nat} (hd : 1 ≤ d)  {I : Nat → Nat → Int32} {E : Nat → Nat → Option Nat} {x1 : Int32} {r0 : Int32} (hf : f_X1_age (I 478) x1 = some r0) : q_Ct g m_X1_age d 0 0 [] [.ref 474, .int x1] (q_hp (t, r, m, z, N, ext, rx, L) I E) (fun o h' => o = .inl (some (.int r0)) ∧ h' = q_hp (t, r, m, z, N, ext, rx, L) (q_ws I []) (q_ws E [])) := by
  rw [f_X1_age] at hf
  refine q_Ct_of ok_X1_age (Nat.le_of_ble_eq_true rfl) ?_ _ rfl rfl
  change q_J g m_X1_age d 0 0 _ [] _ 0 0 (q_kc (t, r, m, z, N, ext, rx, L) I E 0 [some (.ref 474), some (.int x1)] [] [] [])
  refine q_blf 1 [] (a := q_kc (t, r, m, z, N, ext, rx, L) I E 10 [some (.ref 474), some (.int x1)] [] [] []) (b := q_kc (t, r, m, z, N, ext, rx, L) I E 2 [some (.ref 474), some (.int x1)] [] [] []) (P := x1 < 0) ok_X1_age rfl q_cn (fun h1 => ?_) (fun h1 => ?_)
  · have hf := q_ip h1 hf
    refine q_blk 1 [] (c' := q_kc (t, r, m, z, N, ext, rx, L) I E 11 [some (.ref 474), some (.int x1)] [.int (0 : Int32)] [] []) ok_X1_age rfl q_cn ?_
    cases hf
    exact q_kri ok_X1_age rfl rfl rfl (Nat.le_of_ble_eq_true rfl) (Nat.le_of_ble_eq_true rfl) ⟨rfl, q_hpe (q_fin [] rfl) (q_fin [] rfl)⟩
  · have hf := q_in h1 hf
    refine q_blf 2 [] (a := q_kc (t, r, m, z, N, ext, rx, L) I E 10 [some (.ref 474), some (.int x1)] [] [] []) (b := q_kc (t, r, m, z, N, ext, rx, L) I E 5 [some (.ref 474), some (.int x1)] [] [] []) (P := (128 : Int32) ≤ x1) ok_X1_age rfl q_cn (fun h2 => ?_) (fun h2 => ?_)
    · have hf := q_ip h2 hf
      refine q_blk 1 [] (c' := q_kc (t, r, m, z, N, ext, rx, L) I E 11 [some (.ref 474), some (.int x1)] [.int (0 : Int32)] [] []) ok_X1_age rfl q_cn ?_
      cases hf
      exact q_kri ok_X1_age rfl rfl rfl (Nat.le_of_ble_eq_true rfl) (Nat.le_of_ble_eq_true rfl) ⟨rfl, q_hpe (q_fin [] rfl) (q_fin [] rfl)⟩
    · have hf := q_in h2 hf
      obtain ⟨j3, hj3, hf⟩ := q_bd hf
      refine q_blk 5 [j3] (c' := q_kc (t, r, m, z, N, ext, rx, L) I E 11 [some (.ref 474), some (.int x1)] [.int ((I 478) j3)] [] []) ok_X1_age rfl (q_cc hj3 q_cn) ?_
      cases hf
      exact q_kri ok_X1_age rfl rfl rfl (Nat.le_of_ble_eq_true rfl) (Nat.le_of_ble_eq_true rfl) ⟨rfl, q_hpe (q_fin [] rfl) (q_fin [] rfl)⟩
set_option maxHeartbeats 4000000 in
theorem ct_X2_sameHeld_473 {g : q_G} {t : Nat} {r : Nat} {m : Nat} {z : Nat} {N : Nat} {ext : Nat → q_Sh} {rx : Nat → Nat → Option Nat} {L : Nat → Nat → Int64} {d : Nat} (hd : 1 ≤ d)  {I : Nat → Nat → Int32} {E : Nat → Nat → Option Nat} {x1 : Int32} {x2 : Int32} {r0 : Bool} (hf : f_X2_sameHeld (I 486) x1 x2 = some r0) : q_Ct g m_X2_sameHeld d 0 0 [] [.ref 473, .int x1, .int x2] (q_hp (t, r, m, z, N, ext, rx, L) I E) (fun o h' => o = .inl (some (.int (q_bz r0))) ∧ h' = q_hp (t, r, m, z, N, ext, rx, L) (q_ws I []) (q_ws E [])) := by
  rw [f_X2_sameHeld] at hf
  refine q_Ct_of ok_X2_sameHeld (Nat.le_of_ble_eq_true rfl) ?_ _ rfl rfl
  change q_J g m_X2_sameHeld d 0 0 _ [] _ 0 0 (q_kc (t, r, m, z, N, ext, rx, L) I E 0 [some (.ref 473), some (.int x1), some (.int x2)] [] [] [])
  refine q_blf 1 [] (a := q_kc (t, r, m, z, N, ext, rx, L) I E 27 [some (.ref 473), some (.int x1), some (.int x2)] [] [] []) (b := q_kc (t, r, m, z, N, ext, rx, L) I E 2 [some (.ref 473), some (.int x1), some (.int x2)] [] [] []) (P := x1 < 0) ok_X2_sameHeld rfl q_cn (fun h1 => ?_) (fun h1 => ?_)
  · have hf := q_ip h1 hf
    refine q_blk 1 [] (c' := q_kc (t, r, m, z, N, ext, rx, L) I E 28 [some (.ref 473), some (.int x1), some (.int x2)] [.int (0 : Int32)] [] []) ok_X2_sameHeld rfl q_cn ?_
    cases hf
    exact q_kri ok_X2_sameHeld rfl rfl rfl (Nat.le_of_ble_eq_true rfl) (Nat.le_of_ble_eq_true rfl) ⟨rfl, q_hpe (q_fin [] rfl) (q_fin [] rfl)⟩
  · have hf := q_in h1 hf
    refine q_blf 2 [] (a := q_kc (t, r, m, z, N, ext, rx, L) I E 27 [some (.ref 473), some (.int x1), some (.int x2)] [] [] []) (b := q_kc (t, r, m, z, N, ext, rx, L) I E 5 [some (.ref 473), some (.int x1), some (.int x2)] [] [] []) (P := (6 : Int32) ≤ x1) ok_X2_sameHeld rfl q_cn (fun h2 => ?_) (fun h2 => ?_)
    · have hf := q_ip h2 hf
      refine q_blk 1 [] (c' := q_kc (t, r, m, z, N, ext, rx, L) I E 28 [some (.ref 473), some (.int x1), some (.int x2)] [.int (0 : Int32)] [] []) ok_X2_sameHeld rfl q_cn ?_
      cases hf
      exact q_kri ok_X2_sameHeld rfl rfl rfl (Nat.le_of_ble_eq_true rfl) (Nat.le_of_ble_eq_true rfl) ⟨rfl, q_hpe (q_fin [] rfl) (q_fin [] rfl)⟩
    · have hf := q_in h2 hf
      refine q_blf 1 [] (a := q_kc (t, r, m, z, N, ext, rx, L) I E 27 [some (.ref 473), some (.int x1), some (.int x2)] [] [] []) (b := q_kc (t, r, m, z, N, ext, rx, L) I E 7 [some (.ref 473), some (.int x1), some (.int x2)] [] [] []) (P := x2 < 0) ok_X2_sameHeld rfl q_cn (fun h3 => ?_) (fun h3 => ?_)
      · have hf := q_ip h3 hf
        refine q_blk 1 [] (c' := q_kc (t, r, m, z, N, ext, rx, L) I E 28 [some (.ref 473), some (.int x1), some (.int x2)] [.int (0 : Int32)] [] []) ok_X2_sameHeld rfl q_cn ?_
        cases hf
        exact q_kri ok_X2_sameHeld rfl rfl rfl (Nat.le_of_ble_eq_true rfl) (Nat.le_of_ble_eq_true rfl) ⟨rfl, q_hpe (q_fin [] rfl) (q_fin [] rfl)⟩
      · have hf := q_in h3 hf
        refine q_blf 2 [] (a := q_kc (t, r, m, z, N, ext, rx, L) I E 27 [some (.ref 473), some (.int x1), some (.int x2)] [] [] []) (b := q_kc (t, r, m, z, N, ext, rx, L) I E 10 [some (.ref 473), some (.int x1), some (.int x2)] [] [] []) (P := (6 : Int32) ≤ x2) ok_X2_sameHeld rfl q_cn (fun h4 => ?_) (fun h4 => ?_)
        · have hf := q_ip h4 hf
          refine q_blk 1 [] (c' := q_kc (t, r, m, z, N, ext, rx, L) I E 28 [some (.ref 473), some (.int x1), some (.int x2)] [.int (0 : Int32)] [] []) ok_X2_sameHeld rfl q_cn ?_
          cases hf
          exact q_kri ok_X2_sameHeld rfl rfl rfl (Nat.le_of_ble_eq_true rfl) (Nat.le_of_ble_eq_true rfl) ⟨rfl, q_hpe (q_fin [] rfl) (q_fin [] rfl)⟩
        · have hf := q_in h4 hf
          obtain ⟨j5, hj5, hf⟩ := q_bd hf
          refine q_blf 5 [j5] (a := q_kc (t, r, m, z, N, ext, rx, L) I E 27 [some (.ref 473), some (.int x1), some (.int x2)] [] [] []) (b := q_kc (t, r, m, z, N, ext, rx, L) I E 16 [some (.ref 473), some (.int x1), some (.int x2)] [] [] []) (P := ((I 486) j5) = (-1 : Int32)) ok_X2_sameHeld rfl (q_cc hj5 q_cn) (fun h6 => ?_) (fun h6 => ?_)
          · have hf := q_ip h6 hf
            refine q_blk 1 [] (c' := q_kc (t, r, m, z, N, ext, rx, L) I E 28 [some (.ref 473), some (.int x1), some (.int x2)] [.int (0 : Int32)] [] []) ok_X2_sameHeld rfl q_cn ?_
            cases hf
            exact q_kri ok_X2_sameHeld rfl rfl rfl (Nat.le_of_ble_eq_true rfl) (Nat.le_of_ble_eq_true rfl) ⟨rfl, q_hpe (q_fin [] rfl) (q_fin [] rfl)⟩
          · have hf := q_in h6 hf
            obtain ⟨j7, hj7, hf⟩ := q_bd hf
            obtain ⟨j8, hj8, hf⟩ := q_bd hf
            refine q_blf 8 [j7, j8] (a := q_kc (t, r, m, z, N, ext, rx, L) I E 27 [some (.ref 473), some (.int x1), some (.int x2)] [] [] []) (b := q_kc (t, r, m, z, N, ext, rx, L) I E 25 [some (.ref 473), some (.int x1), some (.int x2)] [] [] []) (P := ¬ ((I 486) j7) = ((I 486) j8)) ok_X2_sameHeld rfl (q_cc hj8 (q_cc hj7 q_cn)) (fun h9 => ?_) (fun h9 => ?_)
            · have hf := q_ip h9 hf
              refine q_blk 1 [] (c' := q_kc (t, r, m, z, N, ext, rx, L) I E 28 [some (.ref 473), some (.int x1), some (.int x2)] [.int (0 : Int32)] [] []) ok_X2_sameHeld rfl q_cn ?_
              cases hf
              exact q_kri ok_X2_sameHeld rfl rfl rfl (Nat.le_of_ble_eq_true rfl) (Nat.le_of_ble_eq_true rfl) ⟨rfl, q_hpe (q_fin [] rfl) (q_fin [] rfl)⟩
            · have hf := q_in h9 hf
              refine q_blk 2 [] (c' := q_kc (t, r, m, z, N, ext, rx, L) I E 28 [some (.ref 473), some (.int x1), some (.int x2)] [.int (1 : Int32)] [] []) ok_X2_sameHeld rfl q_cn ?_
              cases hf
              exact q_kri ok_X2_sameHeld rfl rfl rfl (Nat.le_of_ble_eq_true rfl) (Nat.le_of_ble_eq_true rfl) ⟨rfl, q_hpe (q_fin [] rfl) (q_fin [] rfl)⟩
set_option maxHeartbeats 4000000 in
theorem ct_X8_value_473 {g : q_G} {r : Nat} {m : Nat} {z : Nat} {N : Nat} {ext : Nat → q_Sh} {rx : Nat → Nat → Option Nat} {L : Nat → Nat → Int64} {d : Nat} (hd : 2 ≤ d)  {I : Nat → Nat → Int32} {E : Nat → Nat → Option Nat} {x1 : Nat} {x2 : Int32} {r0 : Int32} (hf : f_X8_value (I 402) (I 473) (I 477) (I 478) (I 481) (I 486) x1 x2 = some r0) : q_Ct g m_X8_value d 0 0 [] [.ref 473, .ref x1, .int x2] (q_hp (0, r, m, z, N, ext, rx, L) I E) (fun o h' => o = .inl (some (.int r0)) ∧ h' = q_hp (0, r, m, z, N, ext, rx, L) (q_ws I []) (q_ws E [])) := by
  rw [f_X8_value] at hf
  refine q_Ct_of ok_X8_value (Nat.le_of_ble_eq_true rfl) ?_ _ rfl rfl
  change q_J g m_X8_value d 0 0 _ [] _ 0 0 (q_kc (0, r, m, z, N, ext, rx, L) I E 0 [some (.ref 473), some (.ref x1), some (.int x2)] [] [] [])
  obtain ⟨ug1, hg1, hf⟩ := q_bd hf
  refine q_blk 2 [] (c' := q_kc (0, r, m, z, N, ext, rx, L) I E 2 [some (.ref 473), some (.ref x1), some (.int x2)] [.ref x1, .ref 50] [] []) ok_X8_value rfl q_cn ?_
  refine q_kord (pos' := 3) ok_X8_value rfl (Or.inl rfl) (q_e49_lt hg1) (Nat.le_trans (Nat.le_of_ble_eq_true rfl) hd) (Nat.le_of_ble_eq_true rfl) (Nat.le_of_ble_eq_true rfl) rfl ?_
  obtain ⟨j1, hj1, hf⟩ := q_bd hf
  refine q_blk 1 [j1] (c' := q_kc (0, r, m, z, N, ext, rx, L) I E 4 [some (.ref 473), some (.ref x1), some (.int x2)] [.int (q_sw j1)] [] []) ok_X8_value rfl (q_cc hj1 q_cn) ?_
  refine q_ksw [36, 46, 5, 7, 10, 13, 16, 19, 22, 29] ok_X8_value rfl (dp := 46) rfl (fun ix t9 ht9 hx9 => ?_) (fun hx9 => ?_) (by decide) (by decide)
  · match ix, ht9 with
    | 0, ht9 =>
      have hx9 : (q_sw j1) = 7 := hx9
      cases ht9
      have hf := q_ip hx9 hf
      refine q_blk 2 [] (c' := q_kc (0, r, m, z, N, ext, rx, L) I E 38 [some (.ref 473), some (.ref x1), some (.int x2)] [.int x2, .ref 473] [] []) ok_X8_value rfl q_cn ?_
      obtain ⟨r2, hr2, hf⟩ := q_bd hf
      refine q_kV (M2 := m_X2_held) (As := [.int x2]) (b := 473) (v2 := some (.int r2)) ok_X8_value ok_X2_held cv_X2_held (ct_X2_held_473 (d := 1) (Nat.le_refl _) hr2) rfl rfl (Or.inl rfl) rfl rfl rfl rfl (Nat.le_trans (Nat.le_of_ble_eq_true rfl) hd) (Nat.le_of_ble_eq_true rfl) (Nat.le_of_ble_eq_true rfl) (Nat.le_of_ble_eq_true rfl) (fun x hx => absurd hx List.not_mem_nil) (q_nmL0 _) (q_nmS0 _) rfl (pos' := 39) (st' := [.int r2]) (lI' := []) (lE' := []) rfl rfl rfl rfl ?_
      refine q_blf 1 [] (a := q_kc (0, r, m, z, N, ext, rx, L) I E 43 [some (.ref 473), some (.ref x1), some (.int x2)] [] [] []) (b := q_kc (0, r, m, z, N, ext, rx, L) I E 41 [some (.ref 473), some (.ref x1), some (.int x2)] [] [] []) (P := r2 = (-1 : Int32)) ok_X8_value rfl q_cn (fun h3 => ?_) (fun h3 => ?_)
      · have hf := q_ip h3 hf
        refine q_blk 1 [] (c' := q_kc (0, r, m, z, N, ext, rx, L) I E 44 [some (.ref 473), some (.ref x1), some (.int x2)] [.int (0 : Int32)] [] []) ok_X8_value rfl q_cn ?_
        obtain ⟨r4, hr4, hf⟩ := q_bd hf
        refine q_kS (M2 := m_X8_one) (As := [.int (0 : Int32)]) (v2 := some (.int r4)) ok_X8_value ok_X8_one cs_X8_one (ct_X8_one (d := 1) (Nat.le_refl _) hr4) rfl rfl (Or.inl rfl) (Nat.le_trans (Nat.le_of_ble_eq_true rfl) hd) (Nat.le_of_ble_eq_true rfl) (Nat.le_of_ble_eq_true rfl) (Nat.le_of_ble_eq_true rfl) (fun x hx => absurd hx List.not_mem_nil) (q_nmL0 _) (q_nmS0 _) rfl (pos' := 45) (st' := [.int r4]) (lI' := []) (lE' := []) rfl rfl rfl rfl ?_
        cases hf
        exact q_kri ok_X8_value rfl rfl rfl (Nat.le_of_ble_eq_true rfl) (Nat.le_of_ble_eq_true rfl) ⟨rfl, q_hpe (q_fin [] rfl) (q_fin [] rfl)⟩
      · have hf := q_in h3 hf
        refine q_blk 2 [] (c' := q_kc (0, r, m, z, N, ext, rx, L) I E 44 [some (.ref 473), some (.ref x1), some (.int x2)] [.int (1 : Int32)] [] []) ok_X8_value rfl q_cn ?_
        obtain ⟨r5, hr5, hf⟩ := q_bd hf
        refine q_kS (M2 := m_X8_one) (As := [.int (1 : Int32)]) (v2 := some (.int r5)) ok_X8_value ok_X8_one cs_X8_one (ct_X8_one (d := 1) (Nat.le_refl _) hr5) rfl rfl (Or.inl rfl) (Nat.le_trans (Nat.le_of_ble_eq_true rfl) hd) (Nat.le_of_ble_eq_true rfl) (Nat.le_of_ble_eq_true rfl) (Nat.le_of_ble_eq_true rfl) (fun x hx => absurd hx List.not_mem_nil) (q_nmL0 _) (q_nmS0 _) rfl (pos' := 45) (st' := [.int r5]) (lI' := []) (lE' := []) rfl rfl rfl rfl ?_
        cases hf
        exact q_kri ok_X8_value rfl rfl rfl (Nat.le_of_ble_eq_true rfl) (Nat.le_of_ble_eq_true rfl) ⟨rfl, q_hpe (q_fin [] rfl) (q_fin [] rfl)⟩
    | 1, ht9 =>
      have hx9 : (q_sw j1) = 8 := hx9
      cases ht9
      have hf := q_in (fun hz9 => absurd (hx9.symm.trans hz9) (by decide)) hf
      have hf := q_ip hx9 hf
      refine q_blk 3 [] (c' := q_kc (0, r, m, z, N, ext, rx, L) I E 49 [some (.ref 473), some (.ref x1), some (.int x2)] [.int (6 : Int32), .int x2, .ref 473] [] []) ok_X8_value rfl q_cn ?_
      refine q_kdv (pos' := 50) ok_X8_value rfl (by decide) rfl ?_
      refine q_blk 2 [] (c' := q_kc (0, r, m, z, N, ext, rx, L) I E 52 [some (.ref 473), some (.ref x1), some (.int x2)] [.int (6 : Int32), .int x2, .int (x2 / (6 : Int32)), .ref 473] [] []) ok_X8_value rfl q_cn ?_
      refine q_krm (pos' := 53) ok_X8_value rfl (by decide) rfl ?_
      obtain ⟨r6, hr6, hf⟩ := q_bd hf
      refine q_kV (M2 := m_X2_sameHeld) (As := [.int (x2 / (6 : Int32)), .int (x2 - x2 / (6 : Int32) * (6 : Int32))]) (b := 473) (v2 := some (.int (q_bz r6))) ok_X8_value ok_X2_sameHeld cv_X2_sameHeld (ct_X2_sameHeld_473 (d := 1) (Nat.le_refl _) hr6) rfl rfl (Or.inl rfl) rfl rfl rfl rfl (Nat.le_trans (Nat.le_of_ble_eq_true rfl) hd) (Nat.le_of_ble_eq_true rfl) (Nat.le_of_ble_eq_true rfl) (Nat.le_of_ble_eq_true rfl) (fun x hx => absurd hx List.not_mem_nil) (q_nmL0 _) (q_nmS0 _) rfl (pos' := 54) (st' := [.int (q_bz r6)]) (lI' := []) (lE' := []) rfl rfl rfl rfl ?_
      obtain ⟨r7, hr7, hf⟩ := q_bd hf
      refine q_kS (M2 := m_X8_one) (As := [.int (q_bz r6)]) (v2 := some (.int r7)) ok_X8_value ok_X8_one cs_X8_one (ct_X8_one (d := 1) (Nat.le_refl _) hr7) rfl rfl (Or.inl rfl) (Nat.le_trans (Nat.le_of_ble_eq_true rfl) hd) (Nat.le_of_ble_eq_true rfl) (Nat.le_of_ble_eq_true rfl) (Nat.le_of_ble_eq_true rfl) (fun x hx => absurd hx List.not_mem_nil) (q_nmL0 _) (q_nmS0 _) rfl (pos' := 55) (st' := [.int r7]) (lI' := []) (lE' := []) rfl rfl rfl rfl ?_
      cases hf
      exact q_kri ok_X8_value rfl rfl rfl (Nat.le_of_ble_eq_true rfl) (Nat.le_of_ble_eq_true rfl) ⟨rfl, q_hpe (q_fin [] rfl) (q_fin [] rfl)⟩
    | 2, ht9 =>
      have hx9 : (q_sw j1) = 9 := hx9
      cases ht9
      have hf := q_in (fun hz9 => absurd (hx9.symm.trans hz9) (by decide)) hf
      have hf := q_in (fun hz9 => absurd (hx9.symm.trans hz9) (by decide)) hf
      have hf := q_ip hx9 hf
      refine q_blk 1 [] (c' := q_kc (0, r, m, z, N, ext, rx, L) I E 6 [some (.ref 473), some (.ref x1), some (.int x2)] [.int x2] [] []) ok_X8_value rfl q_cn ?_
      cases hf
      exact q_kri ok_X8_value rfl rfl rfl (Nat.le_of_ble_eq_true rfl) (Nat.le_of_ble_eq_true rfl) ⟨rfl, q_hpe (q_fin [] rfl) (q_fin [] rfl)⟩
    | 3, ht9 =>
      have hx9 : (q_sw j1) = 10 := hx9
      cases ht9
      have hf := q_in (fun hz9 => absurd (hx9.symm.trans hz9) (by decide)) hf
      have hf := q_in (fun hz9 => absurd (hx9.symm.trans hz9) (by decide)) hf
      have hf := q_in (fun hz9 => absurd (hx9.symm.trans hz9) (by decide)) hf
      have hf := q_ip hx9 hf
      refine q_blk 2 [] (c' := q_kc (0, r, m, z, N, ext, rx, L) I E 9 [some (.ref 473), some (.ref x1), some (.int x2)] [.int ((I 473) 10)] [] []) ok_X8_value rfl q_cn ?_
      cases hf
      exact q_kri ok_X8_value rfl rfl rfl (Nat.le_of_ble_eq_true rfl) (Nat.le_of_ble_eq_true rfl) ⟨rfl, q_hpe (q_fin [] rfl) (q_fin [] rfl)⟩
    | 4, ht9 =>
      have hx9 : (q_sw j1) = 11 := hx9
      cases ht9
      have hf := q_in (fun hz9 => absurd (hx9.symm.trans hz9) (by decide)) hf
      have hf := q_in (fun hz9 => absurd (hx9.symm.trans hz9) (by decide)) hf
      have hf := q_in (fun hz9 => absurd (hx9.symm.trans hz9) (by decide)) hf
      have hf := q_in (fun hz9 => absurd (hx9.symm.trans hz9) (by decide)) hf
      have hf := q_ip hx9 hf
      refine q_blk 2 [] (c' := q_kc (0, r, m, z, N, ext, rx, L) I E 12 [some (.ref 473), some (.ref x1), some (.int x2)] [.int ((I 473) 8)] [] []) ok_X8_value rfl q_cn ?_
      cases hf
      exact q_kri ok_X8_value rfl rfl rfl (Nat.le_of_ble_eq_true rfl) (Nat.le_of_ble_eq_true rfl) ⟨rfl, q_hpe (q_fin [] rfl) (q_fin [] rfl)⟩
    | 5, ht9 =>
      have hx9 : (q_sw j1) = 12 := hx9
      cases ht9
      have hf := q_in (fun hz9 => absurd (hx9.symm.trans hz9) (by decide)) hf
      have hf := q_in (fun hz9 => absurd (hx9.symm.trans hz9) (by decide)) hf
      have hf := q_in (fun hz9 => absurd (hx9.symm.trans hz9) (by decide)) hf
      have hf := q_in (fun hz9 => absurd (hx9.symm.trans hz9) (by decide)) hf
      have hf := q_in (fun hz9 => absurd (hx9.symm.trans hz9) (by decide)) hf
      have hf := q_ip hx9 hf
      refine q_blk 1 [] (c' := q_kc (0, r, m, z, N, ext, rx, L) I E 14 [some (.ref 473), some (.ref x1), some (.int x2)] [.ref 473] [] []) ok_X8_value rfl q_cn ?_
      obtain ⟨r8, hr8, hf⟩ := q_bd hf
      refine q_kV (M2 := m_X2_freePlaces) (As := []) (b := 473) (v2 := some (.int r8)) ok_X8_value ok_X2_freePlaces cv_X2_freePlaces (ct_X2_freePlaces_473 (d := 1) (Nat.le_refl _) hr8) rfl rfl (Or.inl rfl) rfl rfl rfl rfl (Nat.le_trans (Nat.le_of_ble_eq_true rfl) hd) (Nat.le_of_ble_eq_true rfl) (Nat.le_of_ble_eq_true rfl) (Nat.le_of_ble_eq_true rfl) (fun x hx => absurd hx List.not_mem_nil) (q_nmL0 _) (q_nmS0 _) rfl (pos' := 15) (st' := [.int r8]) (lI' := []) (lE' := []) rfl rfl rfl rfl ?_
      cases hf
      exact q_kri ok_X8_value rfl rfl rfl (Nat.le_of_ble_eq_true rfl) (Nat.le_of_ble_eq_true rfl) ⟨rfl, q_hpe (q_fin [] rfl) (q_fin [] rfl)⟩
    | 6, ht9 =>
      have hx9 : (q_sw j1) = 13 := hx9
      cases ht9
      have hf := q_in (fun hz9 => absurd (hx9.symm.trans hz9) (by decide)) hf
      have hf := q_in (fun hz9 => absurd (hx9.symm.trans hz9) (by decide)) hf
      have hf := q_in (fun hz9 => absurd (hx9.symm.trans hz9) (by decide)) hf
      have hf := q_in (fun hz9 => absurd (hx9.symm.trans hz9) (by decide)) hf
      have hf := q_in (fun hz9 => absurd (hx9.symm.trans hz9) (by decide)) hf
      have hf := q_in (fun hz9 => absurd (hx9.symm.trans hz9) (by decide)) hf
      have hf := q_ip hx9 hf
      refine q_blk 2 [] (c' := q_kc (0, r, m, z, N, ext, rx, L) I E 18 [some (.ref 473), some (.ref x1), some (.int x2)] [.int ((I 473) 12)] [] []) ok_X8_value rfl q_cn ?_
      cases hf
      exact q_kri ok_X8_value rfl rfl rfl (Nat.le_of_ble_eq_true rfl) (Nat.le_of_ble_eq_true rfl) ⟨rfl, q_hpe (q_fin [] rfl) (q_fin [] rfl)⟩
    | 7, ht9 =>
      have hx9 : (q_sw j1) = 14 := hx9
      cases ht9
      have hf := q_in (fun hz9 => absurd (hx9.symm.trans hz9) (by decide)) hf
      have hf := q_in (fun hz9 => absurd (hx9.symm.trans hz9) (by decide)) hf
      have hf := q_in (fun hz9 => absurd (hx9.symm.trans hz9) (by decide)) hf
      have hf := q_in (fun hz9 => absurd (hx9.symm.trans hz9) (by decide)) hf
      have hf := q_in (fun hz9 => absurd (hx9.symm.trans hz9) (by decide)) hf
      have hf := q_in (fun hz9 => absurd (hx9.symm.trans hz9) (by decide)) hf
      have hf := q_in (fun hz9 => absurd (hx9.symm.trans hz9) (by decide)) hf
      have hf := q_ip hx9 hf
      refine q_blk 1 [] (c' := q_kc (0, r, m, z, N, ext, rx, L) I E 20 [some (.ref 473), some (.ref x1), some (.int x2)] [.ref 473] [] []) ok_X8_value rfl q_cn ?_
      obtain ⟨r9, hr9, hf⟩ := q_bd hf
      refine q_kV (M2 := m_X2_baleCount) (As := []) (b := 473) (v2 := some (.int r9)) ok_X8_value ok_X2_baleCount cv_X2_baleCount (ct_X2_baleCount_473 (d := 1) (Nat.le_refl _) hr9) rfl rfl (Or.inl rfl) rfl rfl rfl rfl (Nat.le_trans (Nat.le_of_ble_eq_true rfl) hd) (Nat.le_of_ble_eq_true rfl) (Nat.le_of_ble_eq_true rfl) (Nat.le_of_ble_eq_true rfl) (fun x hx => absurd hx List.not_mem_nil) (q_nmL0 _) (q_nmS0 _) rfl (pos' := 21) (st' := [.int r9]) (lI' := []) (lE' := []) rfl rfl rfl rfl ?_
      cases hf
      exact q_kri ok_X8_value rfl rfl rfl (Nat.le_of_ble_eq_true rfl) (Nat.le_of_ble_eq_true rfl) ⟨rfl, q_hpe (q_fin [] rfl) (q_fin [] rfl)⟩
    | 8, ht9 =>
      have hx9 : (q_sw j1) = 15 := hx9
      cases ht9
      have hf := q_in (fun hz9 => absurd (hx9.symm.trans hz9) (by decide)) hf
      have hf := q_in (fun hz9 => absurd (hx9.symm.trans hz9) (by decide)) hf
      have hf := q_in (fun hz9 => absurd (hx9.symm.trans hz9) (by decide)) hf
      have hf := q_in (fun hz9 => absurd (hx9.symm.trans hz9) (by decide)) hf
      have hf := q_in (fun hz9 => absurd (hx9.symm.trans hz9) (by decide)) hf
      have hf := q_in (fun hz9 => absurd (hx9.symm.trans hz9) (by decide)) hf
      have hf := q_in (fun hz9 => absurd (hx9.symm.trans hz9) (by decide)) hf
      have hf := q_in (fun hz9 => absurd (hx9.symm.trans hz9) (by decide)) hf
      have hf := q_ip hx9 hf
      refine q_blk 4 [] (c' := q_kc (0, r, m, z, N, ext, rx, L) I E 26 [some (.ref 473), some (.ref x1), some (.int x2)] [.int x2, .ref 473, .ref 474] [] []) ok_X8_value rfl q_cn ?_
      obtain ⟨r10, hr10, hf⟩ := q_bd hf
      refine q_kV (M2 := m_X2_held) (As := [.int x2]) (b := 473) (v2 := some (.int r10)) ok_X8_value ok_X2_held cv_X2_held (ct_X2_held_473 (d := 1) (Nat.le_refl _) hr10) rfl rfl (Or.inl rfl) rfl rfl rfl rfl (Nat.le_trans (Nat.le_of_ble_eq_true rfl) hd) (Nat.le_of_ble_eq_true rfl) (Nat.le_of_ble_eq_true rfl) (Nat.le_of_ble_eq_true rfl) (fun x hx => absurd hx List.not_mem_nil) (q_nmL0 _) (q_nmS0 _) rfl (pos' := 27) (st' := [.int r10, .ref 474]) (lI' := []) (lE' := []) rfl rfl rfl rfl ?_
      obtain ⟨r11, hr11, hf⟩ := q_bd hf
      refine q_kV (M2 := m_X1_size) (As := [.int r10]) (b := 474) (v2 := some (.int r11)) ok_X8_value ok_X1_size cv_X1_size (ct_X1_size_474 (d := 1) (Nat.le_refl _) hr11) rfl rfl (Or.inl rfl) rfl rfl rfl rfl (Nat.le_trans (Nat.le_of_ble_eq_true rfl) hd) (Nat.le_of_ble_eq_true rfl) (Nat.le_of_ble_eq_true rfl) (Nat.le_of_ble_eq_true rfl) (fun x hx => absurd hx List.not_mem_nil) (q_nmL0 _) (q_nmS0 _) rfl (pos' := 28) (st' := [.int r11]) (lI' := []) (lE' := []) rfl rfl rfl rfl ?_
      cases hf
      exact q_kri ok_X8_value rfl rfl rfl (Nat.le_of_ble_eq_true rfl) (Nat.le_of_ble_eq_true rfl) ⟨rfl, q_hpe (q_fin [] rfl) (q_fin [] rfl)⟩
    | 9, ht9 =>
      have hx9 : (q_sw j1) = 16 := hx9
      cases ht9
      have hf := q_in (fun hz9 => absurd (hx9.symm.trans hz9) (by decide)) hf
      have hf := q_in (fun hz9 => absurd (hx9.symm.trans hz9) (by decide)) hf
      have hf := q_in (fun hz9 => absurd (hx9.symm.trans hz9) (by decide)) hf
      have hf := q_in (fun hz9 => absurd (hx9.symm.trans hz9) (by decide)) hf
      have hf := q_in (fun hz9 => absurd (hx9.symm.trans hz9) (by decide)) hf
      have hf := q_in (fun hz9 => absurd (hx9.symm.trans hz9) (by decide)) hf
      have hf := q_in (fun hz9 => absurd (hx9.symm.trans hz9) (by decide)) hf
      have hf := q_in (fun hz9 => absurd (hx9.symm.trans hz9) (by decide)) hf
      have hf := q_in (fun hz9 => absurd (hx9.symm.trans hz9) (by decide)) hf
      have hf := q_ip hx9 hf
      refine q_blk 4 [] (c' := q_kc (0, r, m, z, N, ext, rx, L) I E 33 [some (.ref 473), some (.ref x1), some (.int x2)] [.int x2, .ref 473, .ref 474] [] []) ok_X8_value rfl q_cn ?_
      obtain ⟨r12, hr12, hf⟩ := q_bd hf
      refine q_kV (M2 := m_X2_held) (As := [.int x2]) (b := 473) (v2 := some (.int r12)) ok_X8_value ok_X2_held cv_X2_held (ct_X2_held_473 (d := 1) (Nat.le_refl _) hr12) rfl rfl (Or.inl rfl) rfl rfl rfl rfl (Nat.le_trans (Nat.le_of_ble_eq_true rfl) hd) (Nat.le_of_ble_eq_true rfl) (Nat.le_of_ble_eq_true rfl) (Nat.le_of_ble_eq_true rfl) (fun x hx => absurd hx List.not_mem_nil) (q_nmL0 _) (q_nmS0 _) rfl (pos' := 34) (st' := [.int r12, .ref 474]) (lI' := []) (lE' := []) rfl rfl rfl rfl ?_
      obtain ⟨r13, hr13, hf⟩ := q_bd hf
      refine q_kV (M2 := m_X1_age) (As := [.int r12]) (b := 474) (v2 := some (.int r13)) ok_X8_value ok_X1_age cv_X1_age (ct_X1_age_474 (d := 1) (Nat.le_refl _) hr13) rfl rfl (Or.inl rfl) rfl rfl rfl rfl (Nat.le_trans (Nat.le_of_ble_eq_true rfl) hd) (Nat.le_of_ble_eq_true rfl) (Nat.le_of_ble_eq_true rfl) (Nat.le_of_ble_eq_true rfl) (fun x hx => absurd hx List.not_mem_nil) (q_nmL0 _) (q_nmS0 _) rfl (pos' := 35) (st' := [.int r13]) (lI' := []) (lE' := []) rfl rfl rfl rfl ?_
      cases hf
      exact q_kri ok_X8_value rfl rfl rfl (Nat.le_of_ble_eq_true rfl) (Nat.le_of_ble_eq_true rfl) ⟨rfl, q_hpe (q_fin [] rfl) (q_fin [] rfl)⟩
    | z9 + 10, ht9 => cases ht9
  · have hf := q_in (hx9 0 (by decide)) hf
    have hf := q_in (hx9 1 (by decide)) hf
    have hf := q_in (hx9 2 (by decide)) hf
    have hf := q_in (hx9 3 (by decide)) hf
    have hf := q_in (hx9 4 (by decide)) hf
    have hf := q_in (hx9 5 (by decide)) hf
    have hf := q_in (hx9 6 (by decide)) hf
    have hf := q_in (hx9 7 (by decide)) hf
    have hf := q_in (hx9 8 (by decide)) hf
    have hf := q_in (hx9 9 (by decide)) hf
    refine q_blk 3 [] (c' := q_kc (0, r, m, z, N, ext, rx, L) I E 49 [some (.ref 473), some (.ref x1), some (.int x2)] [.int (6 : Int32), .int x2, .ref 473] [] []) ok_X8_value rfl q_cn ?_
    refine q_kdv (pos' := 50) ok_X8_value rfl (by decide) rfl ?_
    refine q_blk 2 [] (c' := q_kc (0, r, m, z, N, ext, rx, L) I E 52 [some (.ref 473), some (.ref x1), some (.int x2)] [.int (6 : Int32), .int x2, .int (x2 / (6 : Int32)), .ref 473] [] []) ok_X8_value rfl q_cn ?_
    refine q_krm (pos' := 53) ok_X8_value rfl (by decide) rfl ?_
    obtain ⟨r14, hr14, hf⟩ := q_bd hf
    refine q_kV (M2 := m_X2_sameHeld) (As := [.int (x2 / (6 : Int32)), .int (x2 - x2 / (6 : Int32) * (6 : Int32))]) (b := 473) (v2 := some (.int (q_bz r14))) ok_X8_value ok_X2_sameHeld cv_X2_sameHeld (ct_X2_sameHeld_473 (d := 1) (Nat.le_refl _) hr14) rfl rfl (Or.inl rfl) rfl rfl rfl rfl (Nat.le_trans (Nat.le_of_ble_eq_true rfl) hd) (Nat.le_of_ble_eq_true rfl) (Nat.le_of_ble_eq_true rfl) (Nat.le_of_ble_eq_true rfl) (fun x hx => absurd hx List.not_mem_nil) (q_nmL0 _) (q_nmS0 _) rfl (pos' := 54) (st' := [.int (q_bz r14)]) (lI' := []) (lE' := []) rfl rfl rfl rfl ?_
    obtain ⟨r15, hr15, hf⟩ := q_bd hf
    refine q_kS (M2 := m_X8_one) (As := [.int (q_bz r14)]) (v2 := some (.int r15)) ok_X8_value ok_X8_one cs_X8_one (ct_X8_one (d := 1) (Nat.le_refl _) hr15) rfl rfl (Or.inl rfl) (Nat.le_trans (Nat.le_of_ble_eq_true rfl) hd) (Nat.le_of_ble_eq_true rfl) (Nat.le_of_ble_eq_true rfl) (Nat.le_of_ble_eq_true rfl) (fun x hx => absurd hx List.not_mem_nil) (q_nmL0 _) (q_nmS0 _) rfl (pos' := 55) (st' := [.int r15]) (lI' := []) (lE' := []) rfl rfl rfl rfl ?_
    cases hf
    exact q_kri ok_X8_value rfl rfl rfl (Nat.le_of_ble_eq_true rfl) (Nat.le_of_ble_eq_true rfl) ⟨rfl, q_hpe (q_fin [] rfl) (q_fin [] rfl)⟩
set_option maxHeartbeats 4000000 in
theorem ct_X8_obey_490_473 {g : q_G} {r : Nat} {m : Nat} {z : Nat} {N : Nat} {ext : Nat → q_Sh} {rx : Nat → Nat → Option Nat} {L : Nat → Nat → Int64} {d : Nat} (hd : 3 ≤ d)  {I : Nat → Nat → Int32} {E : Nat → Nat → Option Nat} {x2 : Nat} {x3 : Int32} {r0 : (Nat → Int32) × (Nat → Int32)} (hf : f_X8_obey (I 402) (I 473) (I 477) (I 478) (I 481) (I 486) (I 490) (I 491) x2 x3 = some r0) : q_Ct g m_X8_obey d 0 0 [] [.ref 490, .ref 473, .ref x2, .int x3] (q_hp (0, r, m, z, N, ext, rx, L) I E) (fun o h' => o = .inl none ∧ h' = q_hp (0, r, m, z, N, ext, rx, L) (q_ws I [(490, r0.1), (491, r0.2)]) (q_ws E [])) := by
  rw [f_X8_obey] at hf
  refine q_Ct_of ok_X8_obey (Nat.le_of_ble_eq_true rfl) ?_ _ rfl rfl
  change q_J g m_X8_obey d 0 0 _ [] _ 0 0 (q_kc (0, r, m, z, N, ext, rx, L) I E 0 [some (.ref 490), some (.ref 473), some (.ref x2), some (.int x3), none] [] [] [])
  obtain ⟨ug2, hg2, hf⟩ := q_bd hf
  refine q_blk 2 [] (c' := q_kc (0, r, m, z, N, ext, rx, L) I E 2 [some (.ref 490), some (.ref 473), some (.ref x2), some (.int x3), none] [.ref x2, .ref 50] [] []) ok_X8_obey rfl q_cn ?_
  refine q_kord (pos' := 3) ok_X8_obey rfl (Or.inl rfl) (q_e49_lt hg2) (Nat.le_trans (Nat.le_of_ble_eq_true rfl) hd) (Nat.le_of_ble_eq_true rfl) (Nat.le_of_ble_eq_true rfl) rfl ?_
  obtain ⟨j1, hj1, hf⟩ := q_bd hf
  refine q_blk 1 [j1] (c' := q_kc (0, r, m, z, N, ext, rx, L) I E 4 [some (.ref 490), some (.ref 473), some (.ref x2), some (.int x3), none] [.int (q_sw j1)] [] []) ok_X8_obey rfl (q_cc hj1 q_cn) ?_
  refine q_ksw [11, 25, 18, 18, 18, 18, 18, 18, 18, 18, 18, 18, 25, 25, 25, 25, 5] ok_X8_obey rfl (dp := 25) rfl (fun ix t9 ht9 hx9 => ?_) (fun hx9 => ?_) (by decide) (by decide)
  · match ix, ht9 with
    | 0, ht9 =>
      have hx9 : (q_sw j1) = 5 := hx9
      cases ht9
      have hf := q_ip hx9 hf
      refine q_blk 3 [] (c' := q_kc (0, r, m, z, N, ext, rx, L) I E 14 [some (.ref 490), some (.ref 473), some (.ref x2), some (.int x3), none] [.ref 490, .int (1 : Int32), .ref 490] [] []) ok_X8_obey rfl q_cn ?_
      obtain ⟨r2, hr2, hf⟩ := q_bd hf
      refine q_kV (M2 := m_X8_pop) (As := []) (b := 490) (v2 := some (.int r2.1)) ok_X8_obey ok_X8_pop cv_X8_pop (ct_X8_pop_490 (d := 1) (Nat.le_refl _) hr2) rfl rfl (Or.inl rfl) rfl rfl rfl rfl (Nat.le_trans (Nat.le_of_ble_eq_true rfl) hd) (Nat.le_of_ble_eq_true rfl) (Nat.le_of_ble_eq_true rfl) (Nat.le_of_ble_eq_true rfl) (fun x hx => absurd hx List.not_mem_nil) (q_nmL0 _) (q_nmS0 _) rfl (pos' := 15) (st' := [.int r2.1, .int (1 : Int32), .ref 490]) (lI' := [(490, r2.2)]) (lE' := []) rfl rfl rfl rfl ?_
      refine q_blk 1 [] (c' := q_kc (0, r, m, z, N, ext, rx, L) I E 16 [some (.ref 490), some (.ref 473), some (.ref x2), some (.int x3), none] [.int ((1 : Int32) - r2.1), .ref 490] [(490, r2.2)] []) ok_X8_obey rfl q_cn ?_
      obtain ⟨r3, hr3, hf⟩ := q_bd hf
      refine q_kV (M2 := m_X8_push) (As := [.int ((1 : Int32) - r2.1)]) (b := 490) (v2 := none) ok_X8_obey ok_X8_push cv_X8_push (ct_X8_push_490 (d := 1) (Nat.le_refl _) hr3) rfl rfl (Or.inl rfl) rfl rfl rfl rfl (Nat.le_trans (Nat.le_of_ble_eq_true rfl) hd) (Nat.le_of_ble_eq_true rfl) (Nat.le_of_ble_eq_true rfl) (Nat.le_of_ble_eq_true rfl) (fun x hx => absurd hx List.not_mem_nil) (q_nmL0 _) (q_nmS0 _) rfl (pos' := 17) (st' := []) (lI' := [(490, r3.1), (491, r3.2)]) (lE' := []) rfl rfl rfl rfl ?_
      refine q_blk 1 [] (c' := q_kc (0, r, m, z, N, ext, rx, L) I E 35 [some (.ref 490), some (.ref 473), some (.ref x2), some (.int x3), none] [] [(490, r3.1), (491, r3.2)] []) ok_X8_obey rfl q_cn ?_
      cases hf
      exact q_krv ok_X8_obey rfl rfl (Nat.le_of_ble_eq_true rfl) (Nat.le_of_ble_eq_true rfl) ⟨rfl, q_hpe (q_fin [490, 491] rfl) (q_fin [] rfl)⟩
    | 1, ht9 =>
      have hx9 : (q_sw j1) = 6 := hx9
      cases ht9
      have hf := q_in (fun hz9 => absurd (hx9.symm.trans hz9) (by decide)) hf
      have hf := q_ip hx9 hf
      refine q_blk 1 [] (c' := q_kc (0, r, m, z, N, ext, rx, L) I E 26 [some (.ref 490), some (.ref 473), some (.ref x2), some (.int x3), none] [.ref 490] [] []) ok_X8_obey rfl q_cn ?_
      obtain ⟨r4, hr4, hf⟩ := q_bd hf
      refine q_kV (M2 := m_X8_pop) (As := []) (b := 490) (v2 := some (.int r4.1)) ok_X8_obey ok_X8_pop cv_X8_pop (ct_X8_pop_490 (d := 1) (Nat.le_refl _) hr4) rfl rfl (Or.inl rfl) rfl rfl rfl rfl (Nat.le_trans (Nat.le_of_ble_eq_true rfl) hd) (Nat.le_of_ble_eq_true rfl) (Nat.le_of_ble_eq_true rfl) (Nat.le_of_ble_eq_true rfl) (fun x hx => absurd hx List.not_mem_nil) (q_nmL0 _) (q_nmS0 _) rfl (pos' := 27) (st' := [.int r4.1]) (lI' := [(490, r4.2)]) (lE' := []) rfl rfl rfl rfl ?_
      refine q_blk 4 [] (c' := q_kc (0, r, m, z, N, ext, rx, L) I E 31 [some (.ref 490), some (.ref 473), some (.ref x2), some (.int x3), some (.int r4.1)] [.ref 490, .ref x2, .ref 490] [(490, r4.2)] []) ok_X8_obey rfl q_cn ?_
      obtain ⟨r5, hr5, hf⟩ := q_bd hf
      refine q_kV (M2 := m_X8_pop) (As := []) (b := 490) (v2 := some (.int r5.1)) ok_X8_obey ok_X8_pop cv_X8_pop (ct_X8_pop_490 (d := 1) (Nat.le_refl _) hr5) rfl rfl (Or.inl rfl) rfl rfl rfl rfl (Nat.le_trans (Nat.le_of_ble_eq_true rfl) hd) (Nat.le_of_ble_eq_true rfl) (Nat.le_of_ble_eq_true rfl) (Nat.le_of_ble_eq_true rfl) (fun x hx => absurd hx List.not_mem_nil) (q_nmL0 _) (q_nmS0 _) rfl (pos' := 32) (st' := [.int r5.1, .ref x2, .ref 490]) (lI' := [(490, r5.2)]) (lE' := []) rfl rfl rfl rfl ?_
      refine q_blk 1 [] (c' := q_kc (0, r, m, z, N, ext, rx, L) I E 33 [some (.ref 490), some (.ref 473), some (.ref x2), some (.int x3), some (.int r4.1)] [.int r4.1, .int r5.1, .ref x2, .ref 490] [(490, r5.2)] []) ok_X8_obey rfl q_cn ?_
      obtain ⟨r6, hr6, hf⟩ := q_bd hf
      refine q_kS (M2 := m_X8_joined) (As := [.ref x2, .int r5.1, .int r4.1]) (v2 := some (.int r6)) ok_X8_obey ok_X8_joined cs_X8_joined (ct_X8_joined (d := 2) (Nat.le_refl _) hr6) rfl rfl (Or.inl rfl) (Nat.le_trans (Nat.le_of_ble_eq_true rfl) hd) (Nat.le_of_ble_eq_true rfl) (Nat.le_of_ble_eq_true rfl) (Nat.le_of_ble_eq_true rfl) (fun x hx => absurd hx List.not_mem_nil) (q_nmL0 _) (q_nmS0 _) rfl (pos' := 34) (st' := [.int r6, .ref 490]) (lI' := [(490, r5.2)]) (lE' := []) rfl rfl rfl rfl ?_
      obtain ⟨r7, hr7, hf⟩ := q_bd hf
      refine q_kV (M2 := m_X8_push) (As := [.int r6]) (b := 490) (v2 := none) ok_X8_obey ok_X8_push cv_X8_push (ct_X8_push_490 (d := 1) (Nat.le_refl _) hr7) rfl rfl (Or.inl rfl) rfl rfl rfl rfl (Nat.le_trans (Nat.le_of_ble_eq_true rfl) hd) (Nat.le_of_ble_eq_true rfl) (Nat.le_of_ble_eq_true rfl) (Nat.le_of_ble_eq_true rfl) (fun x hx => absurd hx List.not_mem_nil) (q_nmL0 _) (q_nmS0 _) rfl (pos' := 35) (st' := []) (lI' := [(490, r7.1), (491, r7.2)]) (lE' := []) rfl rfl rfl rfl ?_
      cases hf
      exact q_krv ok_X8_obey rfl rfl (Nat.le_of_ble_eq_true rfl) (Nat.le_of_ble_eq_true rfl) ⟨rfl, q_hpe (q_fin [490, 491] rfl) (q_fin [] rfl)⟩
    | 2, ht9 =>
      have hx9 : (q_sw j1) = 7 := hx9
      cases ht9
      have hf := q_in (fun hz9 => absurd (hx9.symm.trans hz9) (by decide)) hf
      have hf := q_in (fun hz9 => absurd (hx9.symm.trans hz9) (by decide)) hf
      have hf := q_ip hx9 hf
      refine q_blk 4 [] (c' := q_kc (0, r, m, z, N, ext, rx, L) I E 22 [some (.ref 490), some (.ref 473), some (.ref x2), some (.int x3), none] [.int x3, .ref x2, .ref 473, .ref 490] [] []) ok_X8_obey rfl q_cn ?_
      obtain ⟨r8, hr8, hf⟩ := q_bd hf
      refine q_kS (M2 := m_X8_value) (As := [.ref 473, .ref x2, .int x3]) (v2 := some (.int r8)) ok_X8_obey ok_X8_value cs_X8_value (ct_X8_value_473 (d := 2) (Nat.le_refl _) hr8) rfl rfl (Or.inl rfl) (Nat.le_trans (Nat.le_of_ble_eq_true rfl) hd) (Nat.le_of_ble_eq_true rfl) (Nat.le_of_ble_eq_true rfl) (Nat.le_of_ble_eq_true rfl) (fun x hx => absurd hx List.not_mem_nil) (q_nmL0 _) (q_nmS0 _) rfl (pos' := 23) (st' := [.int r8, .ref 490]) (lI' := []) (lE' := []) rfl rfl rfl rfl ?_
      obtain ⟨r9, hr9, hf⟩ := q_bd hf
      refine q_kV (M2 := m_X8_push) (As := [.int r8]) (b := 490) (v2 := none) ok_X8_obey ok_X8_push cv_X8_push (ct_X8_push_490 (d := 1) (Nat.le_refl _) hr9) rfl rfl (Or.inl rfl) rfl rfl rfl rfl (Nat.le_trans (Nat.le_of_ble_eq_true rfl) hd) (Nat.le_of_ble_eq_true rfl) (Nat.le_of_ble_eq_true rfl) (Nat.le_of_ble_eq_true rfl) (fun x hx => absurd hx List.not_mem_nil) (q_nmL0 _) (q_nmS0 _) rfl (pos' := 24) (st' := []) (lI' := [(490, r9.1), (491, r9.2)]) (lE' := []) rfl rfl rfl rfl ?_
      refine q_blk 1 [] (c' := q_kc (0, r, m, z, N, ext, rx, L) I E 35 [some (.ref 490), some (.ref 473), some (.ref x2), some (.int x3), none] [] [(490, r9.1), (491, r9.2)] []) ok_X8_obey rfl q_cn ?_
      cases hf
      exact q_krv ok_X8_obey rfl rfl (Nat.le_of_ble_eq_true rfl) (Nat.le_of_ble_eq_true rfl) ⟨rfl, q_hpe (q_fin [490, 491] rfl) (q_fin [] rfl)⟩
    | 3, ht9 =>
      have hx9 : (q_sw j1) = 8 := hx9
      cases ht9
      have hf := q_in (fun hz9 => absurd (hx9.symm.trans hz9) (by decide)) hf
      have hf := q_in (fun hz9 => absurd (hx9.symm.trans hz9) (by decide)) hf
      have hf := q_in (fun hz9 => absurd (hx9.symm.trans hz9) (by decide)) hf
      have hf := q_ip hx9 hf
      refine q_blk 4 [] (c' := q_kc (0, r, m, z, N, ext, rx, L) I E 22 [some (.ref 490), some (.ref 473), some (.ref x2), some (.int x3), none] [.int x3, .ref x2, .ref 473, .ref 490] [] []) ok_X8_obey rfl q_cn ?_
      obtain ⟨r10, hr10, hf⟩ := q_bd hf
      refine q_kS (M2 := m_X8_value) (As := [.ref 473, .ref x2, .int x3]) (v2 := some (.int r10)) ok_X8_obey ok_X8_value cs_X8_value (ct_X8_value_473 (d := 2) (Nat.le_refl _) hr10) rfl rfl (Or.inl rfl) (Nat.le_trans (Nat.le_of_ble_eq_true rfl) hd) (Nat.le_of_ble_eq_true rfl) (Nat.le_of_ble_eq_true rfl) (Nat.le_of_ble_eq_true rfl) (fun x hx => absurd hx List.not_mem_nil) (q_nmL0 _) (q_nmS0 _) rfl (pos' := 23) (st' := [.int r10, .ref 490]) (lI' := []) (lE' := []) rfl rfl rfl rfl ?_
      obtain ⟨r11, hr11, hf⟩ := q_bd hf
      refine q_kV (M2 := m_X8_push) (As := [.int r10]) (b := 490) (v2 := none) ok_X8_obey ok_X8_push cv_X8_push (ct_X8_push_490 (d := 1) (Nat.le_refl _) hr11) rfl rfl (Or.inl rfl) rfl rfl rfl rfl (Nat.le_trans (Nat.le_of_ble_eq_true rfl) hd) (Nat.le_of_ble_eq_true rfl) (Nat.le_of_ble_eq_true rfl) (Nat.le_of_ble_eq_true rfl) (fun x hx => absurd hx List.not_mem_nil) (q_nmL0 _) (q_nmS0 _) rfl (pos' := 24) (st' := []) (lI' := [(490, r11.1), (491, r11.2)]) (lE' := []) rfl rfl rfl rfl ?_
      refine q_blk 1 [] (c' := q_kc (0, r, m, z, N, ext, rx, L) I E 35 [some (.ref 490), some (.ref 473), some (.ref x2), some (.int x3), none] [] [(490, r11.1), (491, r11.2)] []) ok_X8_obey rfl q_cn ?_
      cases hf
      exact q_krv ok_X8_obey rfl rfl (Nat.le_of_ble_eq_true rfl) (Nat.le_of_ble_eq_true rfl) ⟨rfl, q_hpe (q_fin [490, 491] rfl) (q_fin [] rfl)⟩
    | 4, ht9 =>
      have hx9 : (q_sw j1) = 9 := hx9
      cases ht9
      have hf := q_in (fun hz9 => absurd (hx9.symm.trans hz9) (by decide)) hf
      have hf := q_in (fun hz9 => absurd (hx9.symm.trans hz9) (by decide)) hf
      have hf := q_in (fun hz9 => absurd (hx9.symm.trans hz9) (by decide)) hf
      have hf := q_in (fun hz9 => absurd (hx9.symm.trans hz9) (by decide)) hf
      have hf := q_ip hx9 hf
      refine q_blk 4 [] (c' := q_kc (0, r, m, z, N, ext, rx, L) I E 22 [some (.ref 490), some (.ref 473), some (.ref x2), some (.int x3), none] [.int x3, .ref x2, .ref 473, .ref 490] [] []) ok_X8_obey rfl q_cn ?_
      obtain ⟨r12, hr12, hf⟩ := q_bd hf
      refine q_kS (M2 := m_X8_value) (As := [.ref 473, .ref x2, .int x3]) (v2 := some (.int r12)) ok_X8_obey ok_X8_value cs_X8_value (ct_X8_value_473 (d := 2) (Nat.le_refl _) hr12) rfl rfl (Or.inl rfl) (Nat.le_trans (Nat.le_of_ble_eq_true rfl) hd) (Nat.le_of_ble_eq_true rfl) (Nat.le_of_ble_eq_true rfl) (Nat.le_of_ble_eq_true rfl) (fun x hx => absurd hx List.not_mem_nil) (q_nmL0 _) (q_nmS0 _) rfl (pos' := 23) (st' := [.int r12, .ref 490]) (lI' := []) (lE' := []) rfl rfl rfl rfl ?_
      obtain ⟨r13, hr13, hf⟩ := q_bd hf
      refine q_kV (M2 := m_X8_push) (As := [.int r12]) (b := 490) (v2 := none) ok_X8_obey ok_X8_push cv_X8_push (ct_X8_push_490 (d := 1) (Nat.le_refl _) hr13) rfl rfl (Or.inl rfl) rfl rfl rfl rfl (Nat.le_trans (Nat.le_of_ble_eq_true rfl) hd) (Nat.le_of_ble_eq_true rfl) (Nat.le_of_ble_eq_true rfl) (Nat.le_of_ble_eq_true rfl) (fun x hx => absurd hx List.not_mem_nil) (q_nmL0 _) (q_nmS0 _) rfl (pos' := 24) (st' := []) (lI' := [(490, r13.1), (491, r13.2)]) (lE' := []) rfl rfl rfl rfl ?_
      refine q_blk 1 [] (c' := q_kc (0, r, m, z, N, ext, rx, L) I E 35 [some (.ref 490), some (.ref 473), some (.ref x2), some (.int x3), none] [] [(490, r13.1), (491, r13.2)] []) ok_X8_obey rfl q_cn ?_
      cases hf
      exact q_krv ok_X8_obey rfl rfl (Nat.le_of_ble_eq_true rfl) (Nat.le_of_ble_eq_true rfl) ⟨rfl, q_hpe (q_fin [490, 491] rfl) (q_fin [] rfl)⟩
    | 5, ht9 =>
      have hx9 : (q_sw j1) = 10 := hx9
      cases ht9
      have hf := q_in (fun hz9 => absurd (hx9.symm.trans hz9) (by decide)) hf
      have hf := q_in (fun hz9 => absurd (hx9.symm.trans hz9) (by decide)) hf
      have hf := q_in (fun hz9 => absurd (hx9.symm.trans hz9) (by decide)) hf
      have hf := q_in (fun hz9 => absurd (hx9.symm.trans hz9) (by decide)) hf
      have hf := q_in (fun hz9 => absurd (hx9.symm.trans hz9) (by decide)) hf
      have hf := q_ip hx9 hf
      refine q_blk 4 [] (c' := q_kc (0, r, m, z, N, ext, rx, L) I E 22 [some (.ref 490), some (.ref 473), some (.ref x2), some (.int x3), none] [.int x3, .ref x2, .ref 473, .ref 490] [] []) ok_X8_obey rfl q_cn ?_
      obtain ⟨r14, hr14, hf⟩ := q_bd hf
      refine q_kS (M2 := m_X8_value) (As := [.ref 473, .ref x2, .int x3]) (v2 := some (.int r14)) ok_X8_obey ok_X8_value cs_X8_value (ct_X8_value_473 (d := 2) (Nat.le_refl _) hr14) rfl rfl (Or.inl rfl) (Nat.le_trans (Nat.le_of_ble_eq_true rfl) hd) (Nat.le_of_ble_eq_true rfl) (Nat.le_of_ble_eq_true rfl) (Nat.le_of_ble_eq_true rfl) (fun x hx => absurd hx List.not_mem_nil) (q_nmL0 _) (q_nmS0 _) rfl (pos' := 23) (st' := [.int r14, .ref 490]) (lI' := []) (lE' := []) rfl rfl rfl rfl ?_
      obtain ⟨r15, hr15, hf⟩ := q_bd hf
      refine q_kV (M2 := m_X8_push) (As := [.int r14]) (b := 490) (v2 := none) ok_X8_obey ok_X8_push cv_X8_push (ct_X8_push_490 (d := 1) (Nat.le_refl _) hr15) rfl rfl (Or.inl rfl) rfl rfl rfl rfl (Nat.le_trans (Nat.le_of_ble_eq_true rfl) hd) (Nat.le_of_ble_eq_true rfl) (Nat.le_of_ble_eq_true rfl) (Nat.le_of_ble_eq_true rfl) (fun x hx => absurd hx List.not_mem_nil) (q_nmL0 _) (q_nmS0 _) rfl (pos' := 24) (st' := []) (lI' := [(490, r15.1), (491, r15.2)]) (lE' := []) rfl rfl rfl rfl ?_
      refine q_blk 1 [] (c' := q_kc (0, r, m, z, N, ext, rx, L) I E 35 [some (.ref 490), some (.ref 473), some (.ref x2), some (.int x3), none] [] [(490, r15.1), (491, r15.2)] []) ok_X8_obey rfl q_cn ?_
      cases hf
      exact q_krv ok_X8_obey rfl rfl (Nat.le_of_ble_eq_true rfl) (Nat.le_of_ble_eq_true rfl) ⟨rfl, q_hpe (q_fin [490, 491] rfl) (q_fin [] rfl)⟩
    | 6, ht9 =>
      have hx9 : (q_sw j1) = 11 := hx9
      cases ht9
      have hf := q_in (fun hz9 => absurd (hx9.symm.trans hz9) (by decide)) hf
      have hf := q_in (fun hz9 => absurd (hx9.symm.trans hz9) (by decide)) hf
      have hf := q_in (fun hz9 => absurd (hx9.symm.trans hz9) (by decide)) hf
      have hf := q_in (fun hz9 => absurd (hx9.symm.trans hz9) (by decide)) hf
      have hf := q_in (fun hz9 => absurd (hx9.symm.trans hz9) (by decide)) hf
      have hf := q_in (fun hz9 => absurd (hx9.symm.trans hz9) (by decide)) hf
      have hf := q_ip hx9 hf
      refine q_blk 4 [] (c' := q_kc (0, r, m, z, N, ext, rx, L) I E 22 [some (.ref 490), some (.ref 473), some (.ref x2), some (.int x3), none] [.int x3, .ref x2, .ref 473, .ref 490] [] []) ok_X8_obey rfl q_cn ?_
      obtain ⟨r16, hr16, hf⟩ := q_bd hf
      refine q_kS (M2 := m_X8_value) (As := [.ref 473, .ref x2, .int x3]) (v2 := some (.int r16)) ok_X8_obey ok_X8_value cs_X8_value (ct_X8_value_473 (d := 2) (Nat.le_refl _) hr16) rfl rfl (Or.inl rfl) (Nat.le_trans (Nat.le_of_ble_eq_true rfl) hd) (Nat.le_of_ble_eq_true rfl) (Nat.le_of_ble_eq_true rfl) (Nat.le_of_ble_eq_true rfl) (fun x hx => absurd hx List.not_mem_nil) (q_nmL0 _) (q_nmS0 _) rfl (pos' := 23) (st' := [.int r16, .ref 490]) (lI' := []) (lE' := []) rfl rfl rfl rfl ?_
      obtain ⟨r17, hr17, hf⟩ := q_bd hf
      refine q_kV (M2 := m_X8_push) (As := [.int r16]) (b := 490) (v2 := none) ok_X8_obey ok_X8_push cv_X8_push (ct_X8_push_490 (d := 1) (Nat.le_refl _) hr17) rfl rfl (Or.inl rfl) rfl rfl rfl rfl (Nat.le_trans (Nat.le_of_ble_eq_true rfl) hd) (Nat.le_of_ble_eq_true rfl) (Nat.le_of_ble_eq_true rfl) (Nat.le_of_ble_eq_true rfl) (fun x hx => absurd hx List.not_mem_nil) (q_nmL0 _) (q_nmS0 _) rfl (pos' := 24) (st' := []) (lI' := [(490, r17.1), (491, r17.2)]) (lE' := []) rfl rfl rfl rfl ?_
      refine q_blk 1 [] (c' := q_kc (0, r, m, z, N, ext, rx, L) I E 35 [some (.ref 490), some (.ref 473), some (.ref x2), some (.int x3), none] [] [(490, r17.1), (491, r17.2)] []) ok_X8_obey rfl q_cn ?_
      cases hf
      exact q_krv ok_X8_obey rfl rfl (Nat.le_of_ble_eq_true rfl) (Nat.le_of_ble_eq_true rfl) ⟨rfl, q_hpe (q_fin [490, 491] rfl) (q_fin [] rfl)⟩
    | 7, ht9 =>
      have hx9 : (q_sw j1) = 12 := hx9
      cases ht9
      have hf := q_in (fun hz9 => absurd (hx9.symm.trans hz9) (by decide)) hf
      have hf := q_in (fun hz9 => absurd (hx9.symm.trans hz9) (by decide)) hf
      have hf := q_in (fun hz9 => absurd (hx9.symm.trans hz9) (by decide)) hf
      have hf := q_in (fun hz9 => absurd (hx9.symm.trans hz9) (by decide)) hf
      have hf := q_in (fun hz9 => absurd (hx9.symm.trans hz9) (by decide)) hf
      have hf := q_in (fun hz9 => absurd (hx9.symm.trans hz9) (by decide)) hf
      have hf := q_in (fun hz9 => absurd (hx9.symm.trans hz9) (by decide)) hf
      have hf := q_ip hx9 hf
      refine q_blk 4 [] (c' := q_kc (0, r, m, z, N, ext, rx, L) I E 22 [some (.ref 490), some (.ref 473), some (.ref x2), some (.int x3), none] [.int x3, .ref x2, .ref 473, .ref 490] [] []) ok_X8_obey rfl q_cn ?_
      obtain ⟨r18, hr18, hf⟩ := q_bd hf
      refine q_kS (M2 := m_X8_value) (As := [.ref 473, .ref x2, .int x3]) (v2 := some (.int r18)) ok_X8_obey ok_X8_value cs_X8_value (ct_X8_value_473 (d := 2) (Nat.le_refl _) hr18) rfl rfl (Or.inl rfl) (Nat.le_trans (Nat.le_of_ble_eq_true rfl) hd) (Nat.le_of_ble_eq_true rfl) (Nat.le_of_ble_eq_true rfl) (Nat.le_of_ble_eq_true rfl) (fun x hx => absurd hx List.not_mem_nil) (q_nmL0 _) (q_nmS0 _) rfl (pos' := 23) (st' := [.int r18, .ref 490]) (lI' := []) (lE' := []) rfl rfl rfl rfl ?_
      obtain ⟨r19, hr19, hf⟩ := q_bd hf
      refine q_kV (M2 := m_X8_push) (As := [.int r18]) (b := 490) (v2 := none) ok_X8_obey ok_X8_push cv_X8_push (ct_X8_push_490 (d := 1) (Nat.le_refl _) hr19) rfl rfl (Or.inl rfl) rfl rfl rfl rfl (Nat.le_trans (Nat.le_of_ble_eq_true rfl) hd) (Nat.le_of_ble_eq_true rfl) (Nat.le_of_ble_eq_true rfl) (Nat.le_of_ble_eq_true rfl) (fun x hx => absurd hx List.not_mem_nil) (q_nmL0 _) (q_nmS0 _) rfl (pos' := 24) (st' := []) (lI' := [(490, r19.1), (491, r19.2)]) (lE' := []) rfl rfl rfl rfl ?_
      refine q_blk 1 [] (c' := q_kc (0, r, m, z, N, ext, rx, L) I E 35 [some (.ref 490), some (.ref 473), some (.ref x2), some (.int x3), none] [] [(490, r19.1), (491, r19.2)] []) ok_X8_obey rfl q_cn ?_
      cases hf
      exact q_krv ok_X8_obey rfl rfl (Nat.le_of_ble_eq_true rfl) (Nat.le_of_ble_eq_true rfl) ⟨rfl, q_hpe (q_fin [490, 491] rfl) (q_fin [] rfl)⟩
    | 8, ht9 =>
      have hx9 : (q_sw j1) = 13 := hx9
      cases ht9
      have hf := q_in (fun hz9 => absurd (hx9.symm.trans hz9) (by decide)) hf
      have hf := q_in (fun hz9 => absurd (hx9.symm.trans hz9) (by decide)) hf
      have hf := q_in (fun hz9 => absurd (hx9.symm.trans hz9) (by decide)) hf
      have hf := q_in (fun hz9 => absurd (hx9.symm.trans hz9) (by decide)) hf
      have hf := q_in (fun hz9 => absurd (hx9.symm.trans hz9) (by decide)) hf
      have hf := q_in (fun hz9 => absurd (hx9.symm.trans hz9) (by decide)) hf
      have hf := q_in (fun hz9 => absurd (hx9.symm.trans hz9) (by decide)) hf
      have hf := q_in (fun hz9 => absurd (hx9.symm.trans hz9) (by decide)) hf
      have hf := q_ip hx9 hf
      refine q_blk 4 [] (c' := q_kc (0, r, m, z, N, ext, rx, L) I E 22 [some (.ref 490), some (.ref 473), some (.ref x2), some (.int x3), none] [.int x3, .ref x2, .ref 473, .ref 490] [] []) ok_X8_obey rfl q_cn ?_
      obtain ⟨r20, hr20, hf⟩ := q_bd hf
      refine q_kS (M2 := m_X8_value) (As := [.ref 473, .ref x2, .int x3]) (v2 := some (.int r20)) ok_X8_obey ok_X8_value cs_X8_value (ct_X8_value_473 (d := 2) (Nat.le_refl _) hr20) rfl rfl (Or.inl rfl) (Nat.le_trans (Nat.le_of_ble_eq_true rfl) hd) (Nat.le_of_ble_eq_true rfl) (Nat.le_of_ble_eq_true rfl) (Nat.le_of_ble_eq_true rfl) (fun x hx => absurd hx List.not_mem_nil) (q_nmL0 _) (q_nmS0 _) rfl (pos' := 23) (st' := [.int r20, .ref 490]) (lI' := []) (lE' := []) rfl rfl rfl rfl ?_
      obtain ⟨r21, hr21, hf⟩ := q_bd hf
      refine q_kV (M2 := m_X8_push) (As := [.int r20]) (b := 490) (v2 := none) ok_X8_obey ok_X8_push cv_X8_push (ct_X8_push_490 (d := 1) (Nat.le_refl _) hr21) rfl rfl (Or.inl rfl) rfl rfl rfl rfl (Nat.le_trans (Nat.le_of_ble_eq_true rfl) hd) (Nat.le_of_ble_eq_true rfl) (Nat.le_of_ble_eq_true rfl) (Nat.le_of_ble_eq_true rfl) (fun x hx => absurd hx List.not_mem_nil) (q_nmL0 _) (q_nmS0 _) rfl (pos' := 24) (st' := []) (lI' := [(490, r21.1), (491, r21.2)]) (lE' := []) rfl rfl rfl rfl ?_
      refine q_blk 1 [] (c' := q_kc (0, r, m, z, N, ext, rx, L) I E 35 [some (.ref 490), some (.ref 473), some (.ref x2), some (.int x3), none] [] [(490, r21.1), (491, r21.2)] []) ok_X8_obey rfl q_cn ?_
      cases hf
      exact q_krv ok_X8_obey rfl rfl (Nat.le_of_ble_eq_true rfl) (Nat.le_of_ble_eq_true rfl) ⟨rfl, q_hpe (q_fin [490, 491] rfl) (q_fin [] rfl)⟩
    | 9, ht9 =>
      have hx9 : (q_sw j1) = 14 := hx9
      cases ht9
      have hf := q_in (fun hz9 => absurd (hx9.symm.trans hz9) (by decide)) hf
      have hf := q_in (fun hz9 => absurd (hx9.symm.trans hz9) (by decide)) hf
      have hf := q_in (fun hz9 => absurd (hx9.symm.trans hz9) (by decide)) hf
      have hf := q_in (fun hz9 => absurd (hx9.symm.trans hz9) (by decide)) hf
      have hf := q_in (fun hz9 => absurd (hx9.symm.trans hz9) (by decide)) hf
      have hf := q_in (fun hz9 => absurd (hx9.symm.trans hz9) (by decide)) hf
      have hf := q_in (fun hz9 => absurd (hx9.symm.trans hz9) (by decide)) hf
      have hf := q_in (fun hz9 => absurd (hx9.symm.trans hz9) (by decide)) hf
      have hf := q_in (fun hz9 => absurd (hx9.symm.trans hz9) (by decide)) hf
      have hf := q_ip hx9 hf
      refine q_blk 4 [] (c' := q_kc (0, r, m, z, N, ext, rx, L) I E 22 [some (.ref 490), some (.ref 473), some (.ref x2), some (.int x3), none] [.int x3, .ref x2, .ref 473, .ref 490] [] []) ok_X8_obey rfl q_cn ?_
      obtain ⟨r22, hr22, hf⟩ := q_bd hf
      refine q_kS (M2 := m_X8_value) (As := [.ref 473, .ref x2, .int x3]) (v2 := some (.int r22)) ok_X8_obey ok_X8_value cs_X8_value (ct_X8_value_473 (d := 2) (Nat.le_refl _) hr22) rfl rfl (Or.inl rfl) (Nat.le_trans (Nat.le_of_ble_eq_true rfl) hd) (Nat.le_of_ble_eq_true rfl) (Nat.le_of_ble_eq_true rfl) (Nat.le_of_ble_eq_true rfl) (fun x hx => absurd hx List.not_mem_nil) (q_nmL0 _) (q_nmS0 _) rfl (pos' := 23) (st' := [.int r22, .ref 490]) (lI' := []) (lE' := []) rfl rfl rfl rfl ?_
      obtain ⟨r23, hr23, hf⟩ := q_bd hf
      refine q_kV (M2 := m_X8_push) (As := [.int r22]) (b := 490) (v2 := none) ok_X8_obey ok_X8_push cv_X8_push (ct_X8_push_490 (d := 1) (Nat.le_refl _) hr23) rfl rfl (Or.inl rfl) rfl rfl rfl rfl (Nat.le_trans (Nat.le_of_ble_eq_true rfl) hd) (Nat.le_of_ble_eq_true rfl) (Nat.le_of_ble_eq_true rfl) (Nat.le_of_ble_eq_true rfl) (fun x hx => absurd hx List.not_mem_nil) (q_nmL0 _) (q_nmS0 _) rfl (pos' := 24) (st' := []) (lI' := [(490, r23.1), (491, r23.2)]) (lE' := []) rfl rfl rfl rfl ?_
      refine q_blk 1 [] (c' := q_kc (0, r, m, z, N, ext, rx, L) I E 35 [some (.ref 490), some (.ref 473), some (.ref x2), some (.int x3), none] [] [(490, r23.1), (491, r23.2)] []) ok_X8_obey rfl q_cn ?_
      cases hf
      exact q_krv ok_X8_obey rfl rfl (Nat.le_of_ble_eq_true rfl) (Nat.le_of_ble_eq_true rfl) ⟨rfl, q_hpe (q_fin [490, 491] rfl) (q_fin [] rfl)⟩
    | 10, ht9 =>
      have hx9 : (q_sw j1) = 15 := hx9
      cases ht9
      have hf := q_in (fun hz9 => absurd (hx9.symm.trans hz9) (by decide)) hf
      have hf := q_in (fun hz9 => absurd (hx9.symm.trans hz9) (by decide)) hf
      have hf := q_in (fun hz9 => absurd (hx9.symm.trans hz9) (by decide)) hf
      have hf := q_in (fun hz9 => absurd (hx9.symm.trans hz9) (by decide)) hf
      have hf := q_in (fun hz9 => absurd (hx9.symm.trans hz9) (by decide)) hf
      have hf := q_in (fun hz9 => absurd (hx9.symm.trans hz9) (by decide)) hf
      have hf := q_in (fun hz9 => absurd (hx9.symm.trans hz9) (by decide)) hf
      have hf := q_in (fun hz9 => absurd (hx9.symm.trans hz9) (by decide)) hf
      have hf := q_in (fun hz9 => absurd (hx9.symm.trans hz9) (by decide)) hf
      have hf := q_in (fun hz9 => absurd (hx9.symm.trans hz9) (by decide)) hf
      have hf := q_ip hx9 hf
      refine q_blk 4 [] (c' := q_kc (0, r, m, z, N, ext, rx, L) I E 22 [some (.ref 490), some (.ref 473), some (.ref x2), some (.int x3), none] [.int x3, .ref x2, .ref 473, .ref 490] [] []) ok_X8_obey rfl q_cn ?_
      obtain ⟨r24, hr24, hf⟩ := q_bd hf
      refine q_kS (M2 := m_X8_value) (As := [.ref 473, .ref x2, .int x3]) (v2 := some (.int r24)) ok_X8_obey ok_X8_value cs_X8_value (ct_X8_value_473 (d := 2) (Nat.le_refl _) hr24) rfl rfl (Or.inl rfl) (Nat.le_trans (Nat.le_of_ble_eq_true rfl) hd) (Nat.le_of_ble_eq_true rfl) (Nat.le_of_ble_eq_true rfl) (Nat.le_of_ble_eq_true rfl) (fun x hx => absurd hx List.not_mem_nil) (q_nmL0 _) (q_nmS0 _) rfl (pos' := 23) (st' := [.int r24, .ref 490]) (lI' := []) (lE' := []) rfl rfl rfl rfl ?_
      obtain ⟨r25, hr25, hf⟩ := q_bd hf
      refine q_kV (M2 := m_X8_push) (As := [.int r24]) (b := 490) (v2 := none) ok_X8_obey ok_X8_push cv_X8_push (ct_X8_push_490 (d := 1) (Nat.le_refl _) hr25) rfl rfl (Or.inl rfl) rfl rfl rfl rfl (Nat.le_trans (Nat.le_of_ble_eq_true rfl) hd) (Nat.le_of_ble_eq_true rfl) (Nat.le_of_ble_eq_true rfl) (Nat.le_of_ble_eq_true rfl) (fun x hx => absurd hx List.not_mem_nil) (q_nmL0 _) (q_nmS0 _) rfl (pos' := 24) (st' := []) (lI' := [(490, r25.1), (491, r25.2)]) (lE' := []) rfl rfl rfl rfl ?_
      refine q_blk 1 [] (c' := q_kc (0, r, m, z, N, ext, rx, L) I E 35 [some (.ref 490), some (.ref 473), some (.ref x2), some (.int x3), none] [] [(490, r25.1), (491, r25.2)] []) ok_X8_obey rfl q_cn ?_
      cases hf
      exact q_krv ok_X8_obey rfl rfl (Nat.le_of_ble_eq_true rfl) (Nat.le_of_ble_eq_true rfl) ⟨rfl, q_hpe (q_fin [490, 491] rfl) (q_fin [] rfl)⟩
    | 11, ht9 =>
      have hx9 : (q_sw j1) = 16 := hx9
      cases ht9
      have hf := q_in (fun hz9 => absurd (hx9.symm.trans hz9) (by decide)) hf
      have hf := q_in (fun hz9 => absurd (hx9.symm.trans hz9) (by decide)) hf
      have hf := q_in (fun hz9 => absurd (hx9.symm.trans hz9) (by decide)) hf
      have hf := q_in (fun hz9 => absurd (hx9.symm.trans hz9) (by decide)) hf
      have hf := q_in (fun hz9 => absurd (hx9.symm.trans hz9) (by decide)) hf
      have hf := q_in (fun hz9 => absurd (hx9.symm.trans hz9) (by decide)) hf
      have hf := q_in (fun hz9 => absurd (hx9.symm.trans hz9) (by decide)) hf
      have hf := q_in (fun hz9 => absurd (hx9.symm.trans hz9) (by decide)) hf
      have hf := q_in (fun hz9 => absurd (hx9.symm.trans hz9) (by decide)) hf
      have hf := q_in (fun hz9 => absurd (hx9.symm.trans hz9) (by decide)) hf
      have hf := q_in (fun hz9 => absurd (hx9.symm.trans hz9) (by decide)) hf
      have hf := q_ip hx9 hf
      refine q_blk 4 [] (c' := q_kc (0, r, m, z, N, ext, rx, L) I E 22 [some (.ref 490), some (.ref 473), some (.ref x2), some (.int x3), none] [.int x3, .ref x2, .ref 473, .ref 490] [] []) ok_X8_obey rfl q_cn ?_
      obtain ⟨r26, hr26, hf⟩ := q_bd hf
      refine q_kS (M2 := m_X8_value) (As := [.ref 473, .ref x2, .int x3]) (v2 := some (.int r26)) ok_X8_obey ok_X8_value cs_X8_value (ct_X8_value_473 (d := 2) (Nat.le_refl _) hr26) rfl rfl (Or.inl rfl) (Nat.le_trans (Nat.le_of_ble_eq_true rfl) hd) (Nat.le_of_ble_eq_true rfl) (Nat.le_of_ble_eq_true rfl) (Nat.le_of_ble_eq_true rfl) (fun x hx => absurd hx List.not_mem_nil) (q_nmL0 _) (q_nmS0 _) rfl (pos' := 23) (st' := [.int r26, .ref 490]) (lI' := []) (lE' := []) rfl rfl rfl rfl ?_
      obtain ⟨r27, hr27, hf⟩ := q_bd hf
      refine q_kV (M2 := m_X8_push) (As := [.int r26]) (b := 490) (v2 := none) ok_X8_obey ok_X8_push cv_X8_push (ct_X8_push_490 (d := 1) (Nat.le_refl _) hr27) rfl rfl (Or.inl rfl) rfl rfl rfl rfl (Nat.le_trans (Nat.le_of_ble_eq_true rfl) hd) (Nat.le_of_ble_eq_true rfl) (Nat.le_of_ble_eq_true rfl) (Nat.le_of_ble_eq_true rfl) (fun x hx => absurd hx List.not_mem_nil) (q_nmL0 _) (q_nmS0 _) rfl (pos' := 24) (st' := []) (lI' := [(490, r27.1), (491, r27.2)]) (lE' := []) rfl rfl rfl rfl ?_
      refine q_blk 1 [] (c' := q_kc (0, r, m, z, N, ext, rx, L) I E 35 [some (.ref 490), some (.ref 473), some (.ref x2), some (.int x3), none] [] [(490, r27.1), (491, r27.2)] []) ok_X8_obey rfl q_cn ?_
      cases hf
      exact q_krv ok_X8_obey rfl rfl (Nat.le_of_ble_eq_true rfl) (Nat.le_of_ble_eq_true rfl) ⟨rfl, q_hpe (q_fin [490, 491] rfl) (q_fin [] rfl)⟩
    | 12, ht9 =>
      have hx9 : (q_sw j1) = 17 := hx9
      cases ht9
      have hf := q_in (fun hz9 => absurd (hx9.symm.trans hz9) (by decide)) hf
      have hf := q_in (fun hz9 => absurd (hx9.symm.trans hz9) (by decide)) hf
      have hf := q_in (fun hz9 => absurd (hx9.symm.trans hz9) (by decide)) hf
      have hf := q_in (fun hz9 => absurd (hx9.symm.trans hz9) (by decide)) hf
      have hf := q_in (fun hz9 => absurd (hx9.symm.trans hz9) (by decide)) hf
      have hf := q_in (fun hz9 => absurd (hx9.symm.trans hz9) (by decide)) hf
      have hf := q_in (fun hz9 => absurd (hx9.symm.trans hz9) (by decide)) hf
      have hf := q_in (fun hz9 => absurd (hx9.symm.trans hz9) (by decide)) hf
      have hf := q_in (fun hz9 => absurd (hx9.symm.trans hz9) (by decide)) hf
      have hf := q_in (fun hz9 => absurd (hx9.symm.trans hz9) (by decide)) hf
      have hf := q_in (fun hz9 => absurd (hx9.symm.trans hz9) (by decide)) hf
      have hf := q_in (fun hz9 => absurd (hx9.symm.trans hz9) (by decide)) hf
      have hf := q_ip hx9 hf
      refine q_blk 1 [] (c' := q_kc (0, r, m, z, N, ext, rx, L) I E 26 [some (.ref 490), some (.ref 473), some (.ref x2), some (.int x3), none] [.ref 490] [] []) ok_X8_obey rfl q_cn ?_
      obtain ⟨r28, hr28, hf⟩ := q_bd hf
      refine q_kV (M2 := m_X8_pop) (As := []) (b := 490) (v2 := some (.int r28.1)) ok_X8_obey ok_X8_pop cv_X8_pop (ct_X8_pop_490 (d := 1) (Nat.le_refl _) hr28) rfl rfl (Or.inl rfl) rfl rfl rfl rfl (Nat.le_trans (Nat.le_of_ble_eq_true rfl) hd) (Nat.le_of_ble_eq_true rfl) (Nat.le_of_ble_eq_true rfl) (Nat.le_of_ble_eq_true rfl) (fun x hx => absurd hx List.not_mem_nil) (q_nmL0 _) (q_nmS0 _) rfl (pos' := 27) (st' := [.int r28.1]) (lI' := [(490, r28.2)]) (lE' := []) rfl rfl rfl rfl ?_
      refine q_blk 4 [] (c' := q_kc (0, r, m, z, N, ext, rx, L) I E 31 [some (.ref 490), some (.ref 473), some (.ref x2), some (.int x3), some (.int r28.1)] [.ref 490, .ref x2, .ref 490] [(490, r28.2)] []) ok_X8_obey rfl q_cn ?_
      obtain ⟨r29, hr29, hf⟩ := q_bd hf
      refine q_kV (M2 := m_X8_pop) (As := []) (b := 490) (v2 := some (.int r29.1)) ok_X8_obey ok_X8_pop cv_X8_pop (ct_X8_pop_490 (d := 1) (Nat.le_refl _) hr29) rfl rfl (Or.inl rfl) rfl rfl rfl rfl (Nat.le_trans (Nat.le_of_ble_eq_true rfl) hd) (Nat.le_of_ble_eq_true rfl) (Nat.le_of_ble_eq_true rfl) (Nat.le_of_ble_eq_true rfl) (fun x hx => absurd hx List.not_mem_nil) (q_nmL0 _) (q_nmS0 _) rfl (pos' := 32) (st' := [.int r29.1, .ref x2, .ref 490]) (lI' := [(490, r29.2)]) (lE' := []) rfl rfl rfl rfl ?_
      refine q_blk 1 [] (c' := q_kc (0, r, m, z, N, ext, rx, L) I E 33 [some (.ref 490), some (.ref 473), some (.ref x2), some (.int x3), some (.int r28.1)] [.int r28.1, .int r29.1, .ref x2, .ref 490] [(490, r29.2)] []) ok_X8_obey rfl q_cn ?_
      obtain ⟨r30, hr30, hf⟩ := q_bd hf
      refine q_kS (M2 := m_X8_joined) (As := [.ref x2, .int r29.1, .int r28.1]) (v2 := some (.int r30)) ok_X8_obey ok_X8_joined cs_X8_joined (ct_X8_joined (d := 2) (Nat.le_refl _) hr30) rfl rfl (Or.inl rfl) (Nat.le_trans (Nat.le_of_ble_eq_true rfl) hd) (Nat.le_of_ble_eq_true rfl) (Nat.le_of_ble_eq_true rfl) (Nat.le_of_ble_eq_true rfl) (fun x hx => absurd hx List.not_mem_nil) (q_nmL0 _) (q_nmS0 _) rfl (pos' := 34) (st' := [.int r30, .ref 490]) (lI' := [(490, r29.2)]) (lE' := []) rfl rfl rfl rfl ?_
      obtain ⟨r31, hr31, hf⟩ := q_bd hf
      refine q_kV (M2 := m_X8_push) (As := [.int r30]) (b := 490) (v2 := none) ok_X8_obey ok_X8_push cv_X8_push (ct_X8_push_490 (d := 1) (Nat.le_refl _) hr31) rfl rfl (Or.inl rfl) rfl rfl rfl rfl (Nat.le_trans (Nat.le_of_ble_eq_true rfl) hd) (Nat.le_of_ble_eq_true rfl) (Nat.le_of_ble_eq_true rfl) (Nat.le_of_ble_eq_true rfl) (fun x hx => absurd hx List.not_mem_nil) (q_nmL0 _) (q_nmS0 _) rfl (pos' := 35) (st' := []) (lI' := [(490, r31.1), (491, r31.2)]) (lE' := []) rfl rfl rfl rfl ?_
      cases hf
      exact q_krv ok_X8_obey rfl rfl (Nat.le_of_ble_eq_true rfl) (Nat.le_of_ble_eq_true rfl) ⟨rfl, q_hpe (q_fin [490, 491] rfl) (q_fin [] rfl)⟩
    | 13, ht9 =>
      have hx9 : (q_sw j1) = 18 := hx9
      cases ht9
      have hf := q_in (fun hz9 => absurd (hx9.symm.trans hz9) (by decide)) hf
      have hf := q_in (fun hz9 => absurd (hx9.symm.trans hz9) (by decide)) hf
      have hf := q_in (fun hz9 => absurd (hx9.symm.trans hz9) (by decide)) hf
      have hf := q_in (fun hz9 => absurd (hx9.symm.trans hz9) (by decide)) hf
      have hf := q_in (fun hz9 => absurd (hx9.symm.trans hz9) (by decide)) hf
      have hf := q_in (fun hz9 => absurd (hx9.symm.trans hz9) (by decide)) hf
      have hf := q_in (fun hz9 => absurd (hx9.symm.trans hz9) (by decide)) hf
      have hf := q_in (fun hz9 => absurd (hx9.symm.trans hz9) (by decide)) hf
      have hf := q_in (fun hz9 => absurd (hx9.symm.trans hz9) (by decide)) hf
      have hf := q_in (fun hz9 => absurd (hx9.symm.trans hz9) (by decide)) hf
      have hf := q_in (fun hz9 => absurd (hx9.symm.trans hz9) (by decide)) hf
      have hf := q_in (fun hz9 => absurd (hx9.symm.trans hz9) (by decide)) hf
      have hf := q_in (fun hz9 => absurd (hx9.symm.trans hz9) (by decide)) hf
      have hf := q_ip hx9 hf
      refine q_blk 1 [] (c' := q_kc (0, r, m, z, N, ext, rx, L) I E 26 [some (.ref 490), some (.ref 473), some (.ref x2), some (.int x3), none] [.ref 490] [] []) ok_X8_obey rfl q_cn ?_
      obtain ⟨r32, hr32, hf⟩ := q_bd hf
      refine q_kV (M2 := m_X8_pop) (As := []) (b := 490) (v2 := some (.int r32.1)) ok_X8_obey ok_X8_pop cv_X8_pop (ct_X8_pop_490 (d := 1) (Nat.le_refl _) hr32) rfl rfl (Or.inl rfl) rfl rfl rfl rfl (Nat.le_trans (Nat.le_of_ble_eq_true rfl) hd) (Nat.le_of_ble_eq_true rfl) (Nat.le_of_ble_eq_true rfl) (Nat.le_of_ble_eq_true rfl) (fun x hx => absurd hx List.not_mem_nil) (q_nmL0 _) (q_nmS0 _) rfl (pos' := 27) (st' := [.int r32.1]) (lI' := [(490, r32.2)]) (lE' := []) rfl rfl rfl rfl ?_
      refine q_blk 4 [] (c' := q_kc (0, r, m, z, N, ext, rx, L) I E 31 [some (.ref 490), some (.ref 473), some (.ref x2), some (.int x3), some (.int r32.1)] [.ref 490, .ref x2, .ref 490] [(490, r32.2)] []) ok_X8_obey rfl q_cn ?_
      obtain ⟨r33, hr33, hf⟩ := q_bd hf
      refine q_kV (M2 := m_X8_pop) (As := []) (b := 490) (v2 := some (.int r33.1)) ok_X8_obey ok_X8_pop cv_X8_pop (ct_X8_pop_490 (d := 1) (Nat.le_refl _) hr33) rfl rfl (Or.inl rfl) rfl rfl rfl rfl (Nat.le_trans (Nat.le_of_ble_eq_true rfl) hd) (Nat.le_of_ble_eq_true rfl) (Nat.le_of_ble_eq_true rfl) (Nat.le_of_ble_eq_true rfl) (fun x hx => absurd hx List.not_mem_nil) (q_nmL0 _) (q_nmS0 _) rfl (pos' := 32) (st' := [.int r33.1, .ref x2, .ref 490]) (lI' := [(490, r33.2)]) (lE' := []) rfl rfl rfl rfl ?_
      refine q_blk 1 [] (c' := q_kc (0, r, m, z, N, ext, rx, L) I E 33 [some (.ref 490), some (.ref 473), some (.ref x2), some (.int x3), some (.int r32.1)] [.int r32.1, .int r33.1, .ref x2, .ref 490] [(490, r33.2)] []) ok_X8_obey rfl q_cn ?_
      obtain ⟨r34, hr34, hf⟩ := q_bd hf
      refine q_kS (M2 := m_X8_joined) (As := [.ref x2, .int r33.1, .int r32.1]) (v2 := some (.int r34)) ok_X8_obey ok_X8_joined cs_X8_joined (ct_X8_joined (d := 2) (Nat.le_refl _) hr34) rfl rfl (Or.inl rfl) (Nat.le_trans (Nat.le_of_ble_eq_true rfl) hd) (Nat.le_of_ble_eq_true rfl) (Nat.le_of_ble_eq_true rfl) (Nat.le_of_ble_eq_true rfl) (fun x hx => absurd hx List.not_mem_nil) (q_nmL0 _) (q_nmS0 _) rfl (pos' := 34) (st' := [.int r34, .ref 490]) (lI' := [(490, r33.2)]) (lE' := []) rfl rfl rfl rfl ?_
      obtain ⟨r35, hr35, hf⟩ := q_bd hf
      refine q_kV (M2 := m_X8_push) (As := [.int r34]) (b := 490) (v2 := none) ok_X8_obey ok_X8_push cv_X8_push (ct_X8_push_490 (d := 1) (Nat.le_refl _) hr35) rfl rfl (Or.inl rfl) rfl rfl rfl rfl (Nat.le_trans (Nat.le_of_ble_eq_true rfl) hd) (Nat.le_of_ble_eq_true rfl) (Nat.le_of_ble_eq_true rfl) (Nat.le_of_ble_eq_true rfl) (fun x hx => absurd hx List.not_mem_nil) (q_nmL0 _) (q_nmS0 _) rfl (pos' := 35) (st' := []) (lI' := [(490, r35.1), (491, r35.2)]) (lE' := []) rfl rfl rfl rfl ?_
      cases hf
      exact q_krv ok_X8_obey rfl rfl (Nat.le_of_ble_eq_true rfl) (Nat.le_of_ble_eq_true rfl) ⟨rfl, q_hpe (q_fin [490, 491] rfl) (q_fin [] rfl)⟩
    | 14, ht9 =>
      have hx9 : (q_sw j1) = 19 := hx9
      cases ht9
      have hf := q_in (fun hz9 => absurd (hx9.symm.trans hz9) (by decide)) hf
      have hf := q_in (fun hz9 => absurd (hx9.symm.trans hz9) (by decide)) hf
      have hf := q_in (fun hz9 => absurd (hx9.symm.trans hz9) (by decide)) hf
      have hf := q_in (fun hz9 => absurd (hx9.symm.trans hz9) (by decide)) hf
      have hf := q_in (fun hz9 => absurd (hx9.symm.trans hz9) (by decide)) hf
      have hf := q_in (fun hz9 => absurd (hx9.symm.trans hz9) (by decide)) hf
      have hf := q_in (fun hz9 => absurd (hx9.symm.trans hz9) (by decide)) hf
      have hf := q_in (fun hz9 => absurd (hx9.symm.trans hz9) (by decide)) hf
      have hf := q_in (fun hz9 => absurd (hx9.symm.trans hz9) (by decide)) hf
      have hf := q_in (fun hz9 => absurd (hx9.symm.trans hz9) (by decide)) hf
      have hf := q_in (fun hz9 => absurd (hx9.symm.trans hz9) (by decide)) hf
      have hf := q_in (fun hz9 => absurd (hx9.symm.trans hz9) (by decide)) hf
      have hf := q_in (fun hz9 => absurd (hx9.symm.trans hz9) (by decide)) hf
      have hf := q_in (fun hz9 => absurd (hx9.symm.trans hz9) (by decide)) hf
      have hf := q_ip hx9 hf
      refine q_blk 1 [] (c' := q_kc (0, r, m, z, N, ext, rx, L) I E 26 [some (.ref 490), some (.ref 473), some (.ref x2), some (.int x3), none] [.ref 490] [] []) ok_X8_obey rfl q_cn ?_
      obtain ⟨r36, hr36, hf⟩ := q_bd hf
      refine q_kV (M2 := m_X8_pop) (As := []) (b := 490) (v2 := some (.int r36.1)) ok_X8_obey ok_X8_pop cv_X8_pop (ct_X8_pop_490 (d := 1) (Nat.le_refl _) hr36) rfl rfl (Or.inl rfl) rfl rfl rfl rfl (Nat.le_trans (Nat.le_of_ble_eq_true rfl) hd) (Nat.le_of_ble_eq_true rfl) (Nat.le_of_ble_eq_true rfl) (Nat.le_of_ble_eq_true rfl) (fun x hx => absurd hx List.not_mem_nil) (q_nmL0 _) (q_nmS0 _) rfl (pos' := 27) (st' := [.int r36.1]) (lI' := [(490, r36.2)]) (lE' := []) rfl rfl rfl rfl ?_
      refine q_blk 4 [] (c' := q_kc (0, r, m, z, N, ext, rx, L) I E 31 [some (.ref 490), some (.ref 473), some (.ref x2), some (.int x3), some (.int r36.1)] [.ref 490, .ref x2, .ref 490] [(490, r36.2)] []) ok_X8_obey rfl q_cn ?_
      obtain ⟨r37, hr37, hf⟩ := q_bd hf
      refine q_kV (M2 := m_X8_pop) (As := []) (b := 490) (v2 := some (.int r37.1)) ok_X8_obey ok_X8_pop cv_X8_pop (ct_X8_pop_490 (d := 1) (Nat.le_refl _) hr37) rfl rfl (Or.inl rfl) rfl rfl rfl rfl (Nat.le_trans (Nat.le_of_ble_eq_true rfl) hd) (Nat.le_of_ble_eq_true rfl) (Nat.le_of_ble_eq_true rfl) (Nat.le_of_ble_eq_true rfl) (fun x hx => absurd hx List.not_mem_nil) (q_nmL0 _) (q_nmS0 _) rfl (pos' := 32) (st' := [.int r37.1, .ref x2, .ref 490]) (lI' := [(490, r37.2)]) (lE' := []) rfl rfl rfl rfl ?_
      refine q_blk 1 [] (c' := q_kc (0, r, m, z, N, ext, rx, L) I E 33 [some (.ref 490), some (.ref 473), some (.ref x2), some (.int x3), some (.int r36.1)] [.int r36.1, .int r37.1, .ref x2, .ref 490] [(490, r37.2)] []) ok_X8_obey rfl q_cn ?_
      obtain ⟨r38, hr38, hf⟩ := q_bd hf
      refine q_kS (M2 := m_X8_joined) (As := [.ref x2, .int r37.1, .int r36.1]) (v2 := some (.int r38)) ok_X8_obey ok_X8_joined cs_X8_joined (ct_X8_joined (d := 2) (Nat.le_refl _) hr38) rfl rfl (Or.inl rfl) (Nat.le_trans (Nat.le_of_ble_eq_true rfl) hd) (Nat.le_of_ble_eq_true rfl) (Nat.le_of_ble_eq_true rfl) (Nat.le_of_ble_eq_true rfl) (fun x hx => absurd hx List.not_mem_nil) (q_nmL0 _) (q_nmS0 _) rfl (pos' := 34) (st' := [.int r38, .ref 490]) (lI' := [(490, r37.2)]) (lE' := []) rfl rfl rfl rfl ?_
      obtain ⟨r39, hr39, hf⟩ := q_bd hf
      refine q_kV (M2 := m_X8_push) (As := [.int r38]) (b := 490) (v2 := none) ok_X8_obey ok_X8_push cv_X8_push (ct_X8_push_490 (d := 1) (Nat.le_refl _) hr39) rfl rfl (Or.inl rfl) rfl rfl rfl rfl (Nat.le_trans (Nat.le_of_ble_eq_true rfl) hd) (Nat.le_of_ble_eq_true rfl) (Nat.le_of_ble_eq_true rfl) (Nat.le_of_ble_eq_true rfl) (fun x hx => absurd hx List.not_mem_nil) (q_nmL0 _) (q_nmS0 _) rfl (pos' := 35) (st' := []) (lI' := [(490, r39.1), (491, r39.2)]) (lE' := []) rfl rfl rfl rfl ?_
      cases hf
      exact q_krv ok_X8_obey rfl rfl (Nat.le_of_ble_eq_true rfl) (Nat.le_of_ble_eq_true rfl) ⟨rfl, q_hpe (q_fin [490, 491] rfl) (q_fin [] rfl)⟩
    | 15, ht9 =>
      have hx9 : (q_sw j1) = 20 := hx9
      cases ht9
      have hf := q_in (fun hz9 => absurd (hx9.symm.trans hz9) (by decide)) hf
      have hf := q_in (fun hz9 => absurd (hx9.symm.trans hz9) (by decide)) hf
      have hf := q_in (fun hz9 => absurd (hx9.symm.trans hz9) (by decide)) hf
      have hf := q_in (fun hz9 => absurd (hx9.symm.trans hz9) (by decide)) hf
      have hf := q_in (fun hz9 => absurd (hx9.symm.trans hz9) (by decide)) hf
      have hf := q_in (fun hz9 => absurd (hx9.symm.trans hz9) (by decide)) hf
      have hf := q_in (fun hz9 => absurd (hx9.symm.trans hz9) (by decide)) hf
      have hf := q_in (fun hz9 => absurd (hx9.symm.trans hz9) (by decide)) hf
      have hf := q_in (fun hz9 => absurd (hx9.symm.trans hz9) (by decide)) hf
      have hf := q_in (fun hz9 => absurd (hx9.symm.trans hz9) (by decide)) hf
      have hf := q_in (fun hz9 => absurd (hx9.symm.trans hz9) (by decide)) hf
      have hf := q_in (fun hz9 => absurd (hx9.symm.trans hz9) (by decide)) hf
      have hf := q_in (fun hz9 => absurd (hx9.symm.trans hz9) (by decide)) hf
      have hf := q_in (fun hz9 => absurd (hx9.symm.trans hz9) (by decide)) hf
      have hf := q_in (fun hz9 => absurd (hx9.symm.trans hz9) (by decide)) hf
      have hf := q_ip hx9 hf
      refine q_blk 1 [] (c' := q_kc (0, r, m, z, N, ext, rx, L) I E 26 [some (.ref 490), some (.ref 473), some (.ref x2), some (.int x3), none] [.ref 490] [] []) ok_X8_obey rfl q_cn ?_
      obtain ⟨r40, hr40, hf⟩ := q_bd hf
      refine q_kV (M2 := m_X8_pop) (As := []) (b := 490) (v2 := some (.int r40.1)) ok_X8_obey ok_X8_pop cv_X8_pop (ct_X8_pop_490 (d := 1) (Nat.le_refl _) hr40) rfl rfl (Or.inl rfl) rfl rfl rfl rfl (Nat.le_trans (Nat.le_of_ble_eq_true rfl) hd) (Nat.le_of_ble_eq_true rfl) (Nat.le_of_ble_eq_true rfl) (Nat.le_of_ble_eq_true rfl) (fun x hx => absurd hx List.not_mem_nil) (q_nmL0 _) (q_nmS0 _) rfl (pos' := 27) (st' := [.int r40.1]) (lI' := [(490, r40.2)]) (lE' := []) rfl rfl rfl rfl ?_
      refine q_blk 4 [] (c' := q_kc (0, r, m, z, N, ext, rx, L) I E 31 [some (.ref 490), some (.ref 473), some (.ref x2), some (.int x3), some (.int r40.1)] [.ref 490, .ref x2, .ref 490] [(490, r40.2)] []) ok_X8_obey rfl q_cn ?_
      obtain ⟨r41, hr41, hf⟩ := q_bd hf
      refine q_kV (M2 := m_X8_pop) (As := []) (b := 490) (v2 := some (.int r41.1)) ok_X8_obey ok_X8_pop cv_X8_pop (ct_X8_pop_490 (d := 1) (Nat.le_refl _) hr41) rfl rfl (Or.inl rfl) rfl rfl rfl rfl (Nat.le_trans (Nat.le_of_ble_eq_true rfl) hd) (Nat.le_of_ble_eq_true rfl) (Nat.le_of_ble_eq_true rfl) (Nat.le_of_ble_eq_true rfl) (fun x hx => absurd hx List.not_mem_nil) (q_nmL0 _) (q_nmS0 _) rfl (pos' := 32) (st' := [.int r41.1, .ref x2, .ref 490]) (lI' := [(490, r41.2)]) (lE' := []) rfl rfl rfl rfl ?_
      refine q_blk 1 [] (c' := q_kc (0, r, m, z, N, ext, rx, L) I E 33 [some (.ref 490), some (.ref 473), some (.ref x2), some (.int x3), some (.int r40.1)] [.int r40.1, .int r41.1, .ref x2, .ref 490] [(490, r41.2)] []) ok_X8_obey rfl q_cn ?_
      obtain ⟨r42, hr42, hf⟩ := q_bd hf
      refine q_kS (M2 := m_X8_joined) (As := [.ref x2, .int r41.1, .int r40.1]) (v2 := some (.int r42)) ok_X8_obey ok_X8_joined cs_X8_joined (ct_X8_joined (d := 2) (Nat.le_refl _) hr42) rfl rfl (Or.inl rfl) (Nat.le_trans (Nat.le_of_ble_eq_true rfl) hd) (Nat.le_of_ble_eq_true rfl) (Nat.le_of_ble_eq_true rfl) (Nat.le_of_ble_eq_true rfl) (fun x hx => absurd hx List.not_mem_nil) (q_nmL0 _) (q_nmS0 _) rfl (pos' := 34) (st' := [.int r42, .ref 490]) (lI' := [(490, r41.2)]) (lE' := []) rfl rfl rfl rfl ?_
      obtain ⟨r43, hr43, hf⟩ := q_bd hf
      refine q_kV (M2 := m_X8_push) (As := [.int r42]) (b := 490) (v2 := none) ok_X8_obey ok_X8_push cv_X8_push (ct_X8_push_490 (d := 1) (Nat.le_refl _) hr43) rfl rfl (Or.inl rfl) rfl rfl rfl rfl (Nat.le_trans (Nat.le_of_ble_eq_true rfl) hd) (Nat.le_of_ble_eq_true rfl) (Nat.le_of_ble_eq_true rfl) (Nat.le_of_ble_eq_true rfl) (fun x hx => absurd hx List.not_mem_nil) (q_nmL0 _) (q_nmS0 _) rfl (pos' := 35) (st' := []) (lI' := [(490, r43.1), (491, r43.2)]) (lE' := []) rfl rfl rfl rfl ?_
      cases hf
      exact q_krv ok_X8_obey rfl rfl (Nat.le_of_ble_eq_true rfl) (Nat.le_of_ble_eq_true rfl) ⟨rfl, q_hpe (q_fin [490, 491] rfl) (q_fin [] rfl)⟩
    | 16, ht9 =>
      have hx9 : (q_sw j1) = 21 := hx9
      cases ht9
      have hf := q_in (fun hz9 => absurd (hx9.symm.trans hz9) (by decide)) hf
      have hf := q_in (fun hz9 => absurd (hx9.symm.trans hz9) (by decide)) hf
      have hf := q_in (fun hz9 => absurd (hx9.symm.trans hz9) (by decide)) hf
      have hf := q_in (fun hz9 => absurd (hx9.symm.trans hz9) (by decide)) hf
      have hf := q_in (fun hz9 => absurd (hx9.symm.trans hz9) (by decide)) hf
      have hf := q_in (fun hz9 => absurd (hx9.symm.trans hz9) (by decide)) hf
      have hf := q_in (fun hz9 => absurd (hx9.symm.trans hz9) (by decide)) hf
      have hf := q_in (fun hz9 => absurd (hx9.symm.trans hz9) (by decide)) hf
      have hf := q_in (fun hz9 => absurd (hx9.symm.trans hz9) (by decide)) hf
      have hf := q_in (fun hz9 => absurd (hx9.symm.trans hz9) (by decide)) hf
      have hf := q_in (fun hz9 => absurd (hx9.symm.trans hz9) (by decide)) hf
      have hf := q_in (fun hz9 => absurd (hx9.symm.trans hz9) (by decide)) hf
      have hf := q_in (fun hz9 => absurd (hx9.symm.trans hz9) (by decide)) hf
      have hf := q_in (fun hz9 => absurd (hx9.symm.trans hz9) (by decide)) hf
      have hf := q_in (fun hz9 => absurd (hx9.symm.trans hz9) (by decide)) hf
      have hf := q_in (fun hz9 => absurd (hx9.symm.trans hz9) (by decide)) hf
      have hf := q_ip hx9 hf
      refine q_blk 2 [] (c' := q_kc (0, r, m, z, N, ext, rx, L) I E 7 [some (.ref 490), some (.ref 473), some (.ref x2), some (.int x3), none] [.ref 490, .ref 490] [] []) ok_X8_obey rfl q_cn ?_
      obtain ⟨r44, hr44, hf⟩ := q_bd hf
      refine q_kV (M2 := m_X8_pop) (As := []) (b := 490) (v2 := some (.int r44.1)) ok_X8_obey ok_X8_pop cv_X8_pop (ct_X8_pop_490 (d := 1) (Nat.le_refl _) hr44) rfl rfl (Or.inl rfl) rfl rfl rfl rfl (Nat.le_trans (Nat.le_of_ble_eq_true rfl) hd) (Nat.le_of_ble_eq_true rfl) (Nat.le_of_ble_eq_true rfl) (Nat.le_of_ble_eq_true rfl) (fun x hx => absurd hx List.not_mem_nil) (q_nmL0 _) (q_nmS0 _) rfl (pos' := 8) (st' := [.int r44.1, .ref 490]) (lI' := [(490, r44.2)]) (lE' := []) rfl rfl rfl rfl ?_
      refine q_blk 1 [] (c' := q_kc (0, r, m, z, N, ext, rx, L) I E 9 [some (.ref 490), some (.ref 473), some (.ref x2), some (.int x3), none] [.int (-r44.1), .ref 490] [(490, r44.2)] []) ok_X8_obey rfl q_cn ?_
      obtain ⟨r45, hr45, hf⟩ := q_bd hf
      refine q_kV (M2 := m_X8_push) (As := [.int (-r44.1)]) (b := 490) (v2 := none) ok_X8_obey ok_X8_push cv_X8_push (ct_X8_push_490 (d := 1) (Nat.le_refl _) hr45) rfl rfl (Or.inl rfl) rfl rfl rfl rfl (Nat.le_trans (Nat.le_of_ble_eq_true rfl) hd) (Nat.le_of_ble_eq_true rfl) (Nat.le_of_ble_eq_true rfl) (Nat.le_of_ble_eq_true rfl) (fun x hx => absurd hx List.not_mem_nil) (q_nmL0 _) (q_nmS0 _) rfl (pos' := 10) (st' := []) (lI' := [(490, r45.1), (491, r45.2)]) (lE' := []) rfl rfl rfl rfl ?_
      refine q_blk 1 [] (c' := q_kc (0, r, m, z, N, ext, rx, L) I E 35 [some (.ref 490), some (.ref 473), some (.ref x2), some (.int x3), none] [] [(490, r45.1), (491, r45.2)] []) ok_X8_obey rfl q_cn ?_
      cases hf
      exact q_krv ok_X8_obey rfl rfl (Nat.le_of_ble_eq_true rfl) (Nat.le_of_ble_eq_true rfl) ⟨rfl, q_hpe (q_fin [490, 491] rfl) (q_fin [] rfl)⟩
    | z9 + 17, ht9 => cases ht9
  · have hf := q_in (hx9 0 (by decide)) hf
    have hf := q_in (hx9 1 (by decide)) hf
    have hf := q_in (hx9 2 (by decide)) hf
    have hf := q_in (hx9 3 (by decide)) hf
    have hf := q_in (hx9 4 (by decide)) hf
    have hf := q_in (hx9 5 (by decide)) hf
    have hf := q_in (hx9 6 (by decide)) hf
    have hf := q_in (hx9 7 (by decide)) hf
    have hf := q_in (hx9 8 (by decide)) hf
    have hf := q_in (hx9 9 (by decide)) hf
    have hf := q_in (hx9 10 (by decide)) hf
    have hf := q_in (hx9 11 (by decide)) hf
    have hf := q_in (hx9 12 (by decide)) hf
    have hf := q_in (hx9 13 (by decide)) hf
    have hf := q_in (hx9 14 (by decide)) hf
    have hf := q_in (hx9 15 (by decide)) hf
    have hf := q_in (hx9 16 (by decide)) hf
    refine q_blk 1 [] (c' := q_kc (0, r, m, z, N, ext, rx, L) I E 26 [some (.ref 490), some (.ref 473), some (.ref x2), some (.int x3), none] [.ref 490] [] []) ok_X8_obey rfl q_cn ?_
    obtain ⟨r46, hr46, hf⟩ := q_bd hf
    refine q_kV (M2 := m_X8_pop) (As := []) (b := 490) (v2 := some (.int r46.1)) ok_X8_obey ok_X8_pop cv_X8_pop (ct_X8_pop_490 (d := 1) (Nat.le_refl _) hr46) rfl rfl (Or.inl rfl) rfl rfl rfl rfl (Nat.le_trans (Nat.le_of_ble_eq_true rfl) hd) (Nat.le_of_ble_eq_true rfl) (Nat.le_of_ble_eq_true rfl) (Nat.le_of_ble_eq_true rfl) (fun x hx => absurd hx List.not_mem_nil) (q_nmL0 _) (q_nmS0 _) rfl (pos' := 27) (st' := [.int r46.1]) (lI' := [(490, r46.2)]) (lE' := []) rfl rfl rfl rfl ?_
    refine q_blk 4 [] (c' := q_kc (0, r, m, z, N, ext, rx, L) I E 31 [some (.ref 490), some (.ref 473), some (.ref x2), some (.int x3), some (.int r46.1)] [.ref 490, .ref x2, .ref 490] [(490, r46.2)] []) ok_X8_obey rfl q_cn ?_
    obtain ⟨r47, hr47, hf⟩ := q_bd hf
    refine q_kV (M2 := m_X8_pop) (As := []) (b := 490) (v2 := some (.int r47.1)) ok_X8_obey ok_X8_pop cv_X8_pop (ct_X8_pop_490 (d := 1) (Nat.le_refl _) hr47) rfl rfl (Or.inl rfl) rfl rfl rfl rfl (Nat.le_trans (Nat.le_of_ble_eq_true rfl) hd) (Nat.le_of_ble_eq_true rfl) (Nat.le_of_ble_eq_true rfl) (Nat.le_of_ble_eq_true rfl) (fun x hx => absurd hx List.not_mem_nil) (q_nmL0 _) (q_nmS0 _) rfl (pos' := 32) (st' := [.int r47.1, .ref x2, .ref 490]) (lI' := [(490, r47.2)]) (lE' := []) rfl rfl rfl rfl ?_
    refine q_blk 1 [] (c' := q_kc (0, r, m, z, N, ext, rx, L) I E 33 [some (.ref 490), some (.ref 473), some (.ref x2), some (.int x3), some (.int r46.1)] [.int r46.1, .int r47.1, .ref x2, .ref 490] [(490, r47.2)] []) ok_X8_obey rfl q_cn ?_
    obtain ⟨r48, hr48, hf⟩ := q_bd hf
    refine q_kS (M2 := m_X8_joined) (As := [.ref x2, .int r47.1, .int r46.1]) (v2 := some (.int r48)) ok_X8_obey ok_X8_joined cs_X8_joined (ct_X8_joined (d := 2) (Nat.le_refl _) hr48) rfl rfl (Or.inl rfl) (Nat.le_trans (Nat.le_of_ble_eq_true rfl) hd) (Nat.le_of_ble_eq_true rfl) (Nat.le_of_ble_eq_true rfl) (Nat.le_of_ble_eq_true rfl) (fun x hx => absurd hx List.not_mem_nil) (q_nmL0 _) (q_nmS0 _) rfl (pos' := 34) (st' := [.int r48, .ref 490]) (lI' := [(490, r47.2)]) (lE' := []) rfl rfl rfl rfl ?_
    obtain ⟨r49, hr49, hf⟩ := q_bd hf
    refine q_kV (M2 := m_X8_push) (As := [.int r48]) (b := 490) (v2 := none) ok_X8_obey ok_X8_push cv_X8_push (ct_X8_push_490 (d := 1) (Nat.le_refl _) hr49) rfl rfl (Or.inl rfl) rfl rfl rfl rfl (Nat.le_trans (Nat.le_of_ble_eq_true rfl) hd) (Nat.le_of_ble_eq_true rfl) (Nat.le_of_ble_eq_true rfl) (Nat.le_of_ble_eq_true rfl) (fun x hx => absurd hx List.not_mem_nil) (q_nmL0 _) (q_nmS0 _) rfl (pos' := 35) (st' := []) (lI' := [(490, r49.1), (491, r49.2)]) (lE' := []) rfl rfl rfl rfl ?_
    cases hf
    exact q_krv ok_X8_obey rfl rfl (Nat.le_of_ble_eq_true rfl) (Nat.le_of_ble_eq_true rfl) ⟨rfl, q_hpe (q_fin [490, 491] rfl) (q_fin [] rfl)⟩
set_option maxHeartbeats 4000000 in
theorem lp_X8_reckon_L5_490_473 {g : q_G} {d mc ms : Nat} {h0 : q_H} {Q : (Option Value ⊕ String) → q_H → Prop} {k n : Nat} {r : Nat} {m : Nat} {z : Nat} {N : Nat} {ext : Nat → q_Sh} {rx : Nat → Nat → Option Nat} {L : Nat → Nat → Int64} (hd : 4 ≤ d) (hk : k ≤ mc) (hn : n ≤ ms)  {v2 : Int32} {v3 : Int32} : ∀ (fu : Nat) {I : Nat → Nat → Int32} {E : Nat → Nat → Option Nat} {v4 : Int32} {r0 : (Nat → Int32) × (Nat → Int32)} (hf : f_X8_reckon_L5 (I 402) (I 405) (I 473) (I 477) (I 478) (I 481) (I 486) (E 404) v2 v3 fu (I 490) (I 491) v4 = some r0) (hK0 : q_J g m_X8_reckon d mc ms h0 [] Q k n (q_kc (0, r, m, z, N, ext, rx, L) I E 30 [some (.ref 490), none, none, none, none] [] [(490, r0.1), (491, r0.2)] [])), q_J g m_X8_reckon d mc ms h0 [] Q k n (5, [some (.ref 490), some (.ref 473), some (.int v2), some (.int v3), some (.int v4)], [], q_hp (0, r, m, z, N, ext, rx, L) I E) := by
  intro fu
  induction fu with
  | zero =>
    intro I E v4 r0 hf hK0
    rw [f_X8_reckon_L5] at hf
    cases hf
  | succ fu ih =>
    intro I E v4 r0 hf hK0
    rw [f_X8_reckon_L5] at hf
    change q_J g m_X8_reckon d mc ms h0 [] Q k n (q_kc (0, r, m, z, N, ext, rx, L) I E 5 [some (.ref 490), some (.ref 473), some (.int v2), some (.int v3), some (.int v4)] [] [] [])
    refine q_blf 2 [] (a := q_kc (0, r, m, z, N, ext, rx, L) I E 30 [some (.ref 490), some (.ref 473), some (.int v2), some (.int v3), some (.int v4)] [] [] []) (b := q_kc (0, r, m, z, N, ext, rx, L) I E 8 [some (.ref 490), some (.ref 473), some (.int v2), some (.int v3), some (.int v4)] [] [] []) (P := (400 : Int32) ≤ v4) ok_X8_reckon rfl q_cn (fun h1 => ?_) (fun h1 => ?_)
    · have hf := q_ip h1 hf
      refine q_less (ls' := [some (.ref 490), none, none, none, none]) (q_sb2 (q_sb1 (q_sb1 (q_sb1 (q_sb1 q_sb0))))) ?_
      cases hf
      exact q_Jpad [490, 491] [] rfl rfl hK0
    · have hf := q_in h1 hf
      refine q_blf 4 [] (a := q_kc (0, r, m, z, N, ext, rx, L) I E 30 [some (.ref 490), some (.ref 473), some (.int v2), some (.int v3), some (.int v4)] [] [] []) (b := q_kc (0, r, m, z, N, ext, rx, L) I E 13 [some (.ref 490), some (.ref 473), some (.int v2), some (.int v3), some (.int v4)] [] [] []) (P := v3 ≤ (v2 + v4)) ok_X8_reckon rfl q_cn (fun h2 => ?_) (fun h2 => ?_)
      · have hf := q_ip h2 hf
        refine q_less (ls' := [some (.ref 490), none, none, none, none]) (q_sb2 (q_sb1 (q_sb1 (q_sb1 (q_sb1 q_sb0))))) ?_
        cases hf
        exact q_Jpad [490, 491] [] rfl rfl hK0
      · have hf := q_in h2 hf
        refine q_blk 7 [] (c' := q_kc (0, r, m, z, N, ext, rx, L) I E 20 [some (.ref 490), some (.ref 473), some (.int v2), some (.int v3), some (.int v4)] [.int (v2 + v4), .ref 402, .ref 473, .ref 490] [] []) ok_X8_reckon rfl q_cn ?_
        obtain ⟨r3, hr3, hf⟩ := q_bd hf
        obtain ⟨u4, hu5, hf⟩ := q_bd hf
        refine q_kV (M2 := m_X6_order) (As := [.int (v2 + v4)]) (b := 402) (v2 := some (.ref r3)) ok_X8_reckon ok_X6_order cv_X6_order (ct_X6_order_402 (d := 2) (Nat.le_refl _) hr3) rfl rfl (Or.inl rfl) rfl rfl rfl rfl (Nat.le_trans (Nat.le_of_ble_eq_true rfl) hd) hk hn (Nat.le_of_ble_eq_true rfl) (fun x hx => absurd hx List.not_mem_nil) (q_nmL0 _) (q_nmS0 _) rfl (pos' := 21) (st' := [.ref r3, .ref 473, .ref 490]) (lI' := []) (lE' := []) rfl rfl rfl rfl ?_
        refine q_blk 5 [] (c' := q_kc (0, r, m, z, N, ext, rx, L) I E 26 [some (.ref 490), some (.ref 473), some (.int v2), some (.int v3), some (.int v4)] [.int (v2 + v4), .ref 402, .ref r3, .ref 473, .ref 490] [] []) ok_X8_reckon rfl q_cn ?_
        obtain ⟨r6, hr6, hf⟩ := q_bd hf
        refine q_kV (M2 := m_X6_orderNumber) (As := [.int (v2 + v4)]) (b := 402) (v2 := some (.int r6)) ok_X8_reckon ok_X6_orderNumber cv_X6_orderNumber (ct_X6_orderNumber_402 (d := 2) (Nat.le_refl _) hr6) rfl rfl (Or.inl rfl) rfl rfl rfl rfl (Nat.le_trans (Nat.le_of_ble_eq_true rfl) hd) hk hn (Nat.le_of_ble_eq_true rfl) (fun x hx => absurd hx List.not_mem_nil) (q_nmL0 _) (q_nmS0 _) rfl (pos' := 27) (st' := [.int r6, .ref r3, .ref 473, .ref 490]) (lI' := []) (lE' := []) rfl rfl rfl rfl ?_
        obtain ⟨r7, hr7, hf⟩ := q_bd hf
        refine q_kV (M2 := m_X8_obey) (As := [.ref 473, .ref r3, .int r6]) (b := 490) (v2 := none) ok_X8_reckon ok_X8_obey cv_X8_obey (ct_X8_obey_490_473 (d := 3) (Nat.le_refl _) hr7) rfl rfl (Or.inl rfl) rfl rfl rfl rfl (Nat.le_trans (Nat.le_of_ble_eq_true rfl) hd) hk hn (Nat.le_of_ble_eq_true rfl) (fun x hx => absurd hx List.not_mem_nil) (q_nmL0 _) (q_nmS0 _) rfl (pos' := 28) (st' := []) (lI' := [(490, r7.1), (491, r7.2)]) (lE' := []) rfl rfl rfl rfl ?_
        refine q_blk 2 [] (c' := q_kc (0, r, m, z, N, ext, rx, L) I E 5 [some (.ref 490), some (.ref 473), some (.int v2), some (.int v3), some (.int (v4 + 1))] [] [(490, r7.1), (491, r7.2)] []) ok_X8_reckon rfl q_cn ?_
        exact ih (I := q_ws I [(490, r7.1), (491, r7.2)]) (E := q_ws E []) hf (q_Jmrg rfl rfl hK0)
set_option maxHeartbeats 4000000 in
theorem ct_X8_reckon_490_473 {g : q_G} {r : Nat} {m : Nat} {z : Nat} {N : Nat} {ext : Nat → q_Sh} {rx : Nat → Nat → Option Nat} {L : Nat → Nat → Int64} {d : Nat} (hd : 4 ≤ d)  {I : Nat → Nat → Int32} {E : Nat → Nat → Option Nat} {x2 : Int32} {x3 : Int32} {r0 : Int32 × (Nat → Int32) × (Nat → Int32)} (hf : f_X8_reckon (I 402) (I 405) (I 473) (I 477) (I 478) (I 481) (I 486) (I 490) (I 491) (E 404) x2 x3 = some r0) : q_Ct g m_X8_reckon d 0 0 [] [.ref 490, .ref 473, .int x2, .int x3] (q_hp (0, r, m, z, N, ext, rx, L) I E) (fun o h' => o = .inl (some (.int r0.1)) ∧ h' = q_hp (0, r, m, z, N, ext, rx, L) (q_ws I [(490, r0.2.1), (491, r0.2.2)]) (q_ws E [])) := by
  rw [f_X8_reckon] at hf
  refine q_Ct_of ok_X8_reckon (Nat.le_of_ble_eq_true rfl) ?_ _ rfl rfl
  change q_J g m_X8_reckon d 0 0 _ [] _ 0 0 (q_kc (0, r, m, z, N, ext, rx, L) I E 0 [some (.ref 490), some (.ref 473), some (.int x2), some (.int x3), none] [] [] [])
  refine q_blk 5 [] (c' := q_kc (0, r, m, z, N, ext, rx, L) I E 5 [some (.ref 490), some (.ref 473), some (.int x2), some (.int x3), some (.int (0 : Int32))] [] [(490, (q_up (I 490) 1 (0 : Int32)))] []) ok_X8_reckon rfl q_cn ?_
  obtain ⟨r8, hr8, hf⟩ := q_bd hf
  refine lp_X8_reckon_L5_490_473 (I := q_ws I [(490, (q_up (I 490) 1 (0 : Int32)))]) (E := q_ws E []) hd (Nat.le_of_ble_eq_true rfl) (Nat.le_of_ble_eq_true rfl) 4096 hr8 ?_
  refine q_Jmrg (lI' := [(490, r8.1), (491, r8.2)]) (lE' := []) rfl rfl ?_
  refine q_blk 1 [] (c' := q_kc (0, r, m, z, N, ext, rx, L) I E 31 [some (.ref 490), none, none, none, none] [.ref 490] [(490, r8.1), (491, r8.2)] []) ok_X8_reckon rfl q_cn ?_
  obtain ⟨r9, hr9, hf⟩ := q_bd hf
  refine q_kV (M2 := m_X8_pop) (As := []) (b := 490) (v2 := some (.int r9.1)) ok_X8_reckon ok_X8_pop cv_X8_pop (ct_X8_pop_490 (d := 1) (Nat.le_refl _) hr9) rfl rfl (Or.inl rfl) rfl rfl rfl rfl (Nat.le_trans (Nat.le_of_ble_eq_true rfl) hd) (Nat.le_of_ble_eq_true rfl) (Nat.le_of_ble_eq_true rfl) (Nat.le_of_ble_eq_true rfl) (fun x hx => absurd hx List.not_mem_nil) (q_nmL0 _) (q_nmS0 _) rfl (pos' := 32) (st' := [.int r9.1]) (lI' := [(490, r9.2), (491, r8.2)]) (lE' := []) rfl rfl rfl rfl ?_
  cases hf
  exact q_kri ok_X8_reckon rfl rfl rfl (Nat.le_of_ble_eq_true rfl) (Nat.le_of_ble_eq_true rfl) ⟨rfl, q_hpe (q_fin [490, 491] rfl) (q_fin [] rfl)⟩
set_option maxHeartbeats 4000000 in
theorem ct_X4_clear_483 {g : q_G} {t : Nat} {r : Nat} {m : Nat} {z : Nat} {N : Nat} {ext : Nat → q_Sh} {rx : Nat → Nat → Option Nat} {L : Nat → Nat → Int64} {d : Nat} (hd : 2 ≤ d)  {I : Nat → Nat → Int32} {E : Nat → Nat → Option Nat} {r0 : (Nat → Int32) × (Nat → Int32)} (hf : f_X4_clear (I 483) (I 485) = some r0) : q_Ct g m_X4_clear d 0 0 [] [.ref 483] (q_hp (t, r, m, z, N, ext, rx, L) I E) (fun o h' => o = .inl none ∧ h' = q_hp (t, r, m, z, N, ext, rx, L) (q_ws I [(483, r0.1), (485, r0.2)]) (q_ws E [])) := by
  rw [f_X4_clear] at hf
  refine q_Ct_of ok_X4_clear (Nat.le_of_ble_eq_true rfl) ?_ _ rfl rfl
  change q_J g m_X4_clear d 0 0 _ [] _ 0 0 (q_kc (t, r, m, z, N, ext, rx, L) I E 0 [some (.ref 483)] [] [] [])
  refine q_blk 3 [] (c' := q_kc (t, r, m, z, N, ext, rx, L) I E 3 [some (.ref 483)] [.int (-1 : Int32), .ref 485] [] []) ok_X4_clear rfl q_cn ?_
  refine q_kS (M2 := m_J7_fill_53178) (As := [.ref 485, .int (-1 : Int32)]) (v2 := none) ok_X4_clear ok_J7_fill_53178 cs_J7_fill_53178 (ct_fill (d := 1) (a := 485) (L := 128) (Nat.le_refl _) rfl rfl rfl) rfl rfl (Or.inl rfl) (Nat.le_trans (Nat.le_of_ble_eq_true rfl) hd) (Nat.le_of_ble_eq_true rfl) (Nat.le_of_ble_eq_true rfl) (Nat.le_of_ble_eq_true rfl) (fun x hx => absurd hx List.not_mem_nil) (q_nmL0 _) (q_nmS0 _) rfl (pos' := 4) (st' := []) (lI' := [(485, (q_fil 128 (-1 : Int32) (I 485)))]) (lE' := []) rfl rfl rfl rfl ?_
  refine q_blk 3 [] (c' := q_kc (t, r, m, z, N, ext, rx, L) I E 7 [some (.ref 483)] [] [(483, (q_up (I 483) 2 (0 : Int32))), (485, (q_fil 128 (-1 : Int32) (I 485)))] []) ok_X4_clear rfl q_cn ?_
  cases hf
  exact q_krv ok_X4_clear rfl rfl (Nat.le_of_ble_eq_true rfl) (Nat.le_of_ble_eq_true rfl) ⟨rfl, q_hpe (q_fin [483, 485] rfl) (q_fin [] rfl)⟩
set_option maxHeartbeats 4000000 in
theorem ct_X1_liesInHalf_474 {g : q_G} {t : Nat} {r : Nat} {m : Nat} {z : Nat} {N : Nat} {ext : Nat → q_Sh} {rx : Nat → Nat → Option Nat} {L : Nat → Nat → Int64} {d : Nat} (hd : 1 ≤ d)  {I : Nat → Nat → Int32} {E : Nat → Nat → Option Nat} {x1 : Int32} {r0 : Bool} (hf : f_X1_liesInHalf (I 475) x1 = some r0) : q_Ct g m_X1_liesInHalf d 0 0 [] [.ref 474, .int x1] (q_hp (t, r, m, z, N, ext, rx, L) I E) (fun o h' => o = .inl (some (.int (q_bz r0))) ∧ h' = q_hp (t, r, m, z, N, ext, rx, L) (q_ws I []) (q_ws E [])) := by
  rw [f_X1_liesInHalf] at hf
  refine q_Ct_of ok_X1_liesInHalf (Nat.le_of_ble_eq_true rfl) ?_ _ rfl rfl
  change q_J g m_X1_liesInHalf d 0 0 _ [] _ 0 0 (q_kc (t, r, m, z, N, ext, rx, L) I E 0 [some (.ref 474), some (.int x1)] [] [] [])
  refine q_blf 1 [] (a := q_kc (t, r, m, z, N, ext, rx, L) I E 13 [some (.ref 474), some (.int x1)] [] [] []) (b := q_kc (t, r, m, z, N, ext, rx, L) I E 2 [some (.ref 474), some (.int x1)] [] [] []) (P := x1 < 0) ok_X1_liesInHalf rfl q_cn (fun h1 => ?_) (fun h1 => ?_)
  · have hf := q_ip h1 hf
    refine q_blk 1 [] (c' := q_kc (t, r, m, z, N, ext, rx, L) I E 14 [some (.ref 474), some (.int x1)] [.int (0 : Int32)] [] []) ok_X1_liesInHalf rfl q_cn ?_
    cases hf
    exact q_kri ok_X1_liesInHalf rfl rfl rfl (Nat.le_of_ble_eq_true rfl) (Nat.le_of_ble_eq_true rfl) ⟨rfl, q_hpe (q_fin [] rfl) (q_fin [] rfl)⟩
  · have hf := q_in h1 hf
    refine q_blf 2 [] (a := q_kc (t, r, m, z, N, ext, rx, L) I E 13 [some (.ref 474), some (.int x1)] [] [] []) (b := q_kc (t, r, m, z, N, ext, rx, L) I E 5 [some (.ref 474), some (.int x1)] [] [] []) (P := (128 : Int32) ≤ x1) ok_X1_liesInHalf rfl q_cn (fun h2 => ?_) (fun h2 => ?_)
    · have hf := q_ip h2 hf
      refine q_blk 1 [] (c' := q_kc (t, r, m, z, N, ext, rx, L) I E 14 [some (.ref 474), some (.int x1)] [.int (0 : Int32)] [] []) ok_X1_liesInHalf rfl q_cn ?_
      cases hf
      exact q_kri ok_X1_liesInHalf rfl rfl rfl (Nat.le_of_ble_eq_true rfl) (Nat.le_of_ble_eq_true rfl) ⟨rfl, q_hpe (q_fin [] rfl) (q_fin [] rfl)⟩
    · have hf := q_in h2 hf
      obtain ⟨j3, hj3, hf⟩ := q_bd hf
      refine q_blf 5 [j3] (a := q_kc (t, r, m, z, N, ext, rx, L) I E 13 [some (.ref 474), some (.int x1)] [] [] []) (b := q_kc (t, r, m, z, N, ext, rx, L) I E 11 [some (.ref 474), some (.int x1)] [] [] []) (P := ¬ ((I 475) j3) = (1 : Int32)) ok_X1_liesInHalf rfl (q_cc hj3 q_cn) (fun h4 => ?_) (fun h4 => ?_)
      · have hf := q_ip h4 hf
        refine q_blk 1 [] (c' := q_kc (t, r, m, z, N, ext, rx, L) I E 14 [some (.ref 474), some (.int x1)] [.int (0 : Int32)] [] []) ok_X1_liesInHalf rfl q_cn ?_
        cases hf
        exact q_kri ok_X1_liesInHalf rfl rfl rfl (Nat.le_of_ble_eq_true rfl) (Nat.le_of_ble_eq_true rfl) ⟨rfl, q_hpe (q_fin [] rfl) (q_fin [] rfl)⟩
      · have hf := q_in h4 hf
        refine q_blk 2 [] (c' := q_kc (t, r, m, z, N, ext, rx, L) I E 14 [some (.ref 474), some (.int x1)] [.int (1 : Int32)] [] []) ok_X1_liesInHalf rfl q_cn ?_
        cases hf
        exact q_kri ok_X1_liesInHalf rfl rfl rfl (Nat.le_of_ble_eq_true rfl) (Nat.le_of_ble_eq_true rfl) ⟨rfl, q_hpe (q_fin [] rfl) (q_fin [] rfl)⟩
set_option maxHeartbeats 4000000 in
theorem ct_X4_add_483 {g : q_G} {t : Nat} {r : Nat} {m : Nat} {z : Nat} {N : Nat} {ext : Nat → q_Sh} {rx : Nat → Nat → Option Nat} {L : Nat → Nat → Int64} {d : Nat} (hd : 1 ≤ d)  {I : Nat → Nat → Int32} {E : Nat → Nat → Option Nat} {x1 : Int32} {x2 : Int32} {r0 : Bool × (Nat → Int32) × (Nat → Int32) × (Nat → Int32)} (hf : f_X4_add (I 483) (I 484) (I 485) x1 x2 = some r0) : q_Ct g m_X4_add d 0 0 [] [.ref 483, .int x1, .int x2] (q_hp (t, r, m, z, N, ext, rx, L) I E) (fun o h' => o = .inl (some (.int (q_bz r0.1))) ∧ h' = q_hp (t, r, m, z, N, ext, rx, L) (q_ws I [(483, r0.2.1), (484, r0.2.2.1), (485, r0.2.2.2)]) (q_ws E [])) := by
  rw [f_X4_add] at hf
  refine q_Ct_of ok_X4_add (Nat.le_of_ble_eq_true rfl) ?_ _ rfl rfl
  change q_J g m_X4_add d 0 0 _ [] _ 0 0 (q_kc (t, r, m, z, N, ext, rx, L) I E 0 [some (.ref 483), some (.int x1), some (.int x2)] [] [] [])
  refine q_blf 1 [] (a := q_kc (t, r, m, z, N, ext, rx, L) I E 15 [some (.ref 483), some (.int x1), some (.int x2)] [] [] []) (b := q_kc (t, r, m, z, N, ext, rx, L) I E 2 [some (.ref 483), some (.int x1), some (.int x2)] [] [] []) (P := x1 < 0) ok_X4_add rfl q_cn (fun h1 => ?_) (fun h1 => ?_)
  · have hf := q_ip h1 hf
    refine q_blk 1 [] (c' := q_kc (t, r, m, z, N, ext, rx, L) I E 16 [some (.ref 483), some (.int x1), some (.int x2)] [.int (0 : Int32)] [] []) ok_X4_add rfl q_cn ?_
    cases hf
    exact q_kri ok_X4_add rfl rfl rfl (Nat.le_of_ble_eq_true rfl) (Nat.le_of_ble_eq_true rfl) ⟨rfl, q_hpe (q_fin [483, 484, 485] rfl) (q_fin [] rfl)⟩
  · have hf := q_in h1 hf
    refine q_blf 2 [] (a := q_kc (t, r, m, z, N, ext, rx, L) I E 15 [some (.ref 483), some (.int x1), some (.int x2)] [] [] []) (b := q_kc (t, r, m, z, N, ext, rx, L) I E 5 [some (.ref 483), some (.int x1), some (.int x2)] [] [] []) (P := (128 : Int32) ≤ x1) ok_X4_add rfl q_cn (fun h2 => ?_) (fun h2 => ?_)
    · have hf := q_ip h2 hf
      refine q_blk 1 [] (c' := q_kc (t, r, m, z, N, ext, rx, L) I E 16 [some (.ref 483), some (.int x1), some (.int x2)] [.int (0 : Int32)] [] []) ok_X4_add rfl q_cn ?_
      cases hf
      exact q_kri ok_X4_add rfl rfl rfl (Nat.le_of_ble_eq_true rfl) (Nat.le_of_ble_eq_true rfl) ⟨rfl, q_hpe (q_fin [483, 484, 485] rfl) (q_fin [] rfl)⟩
    · have hf := q_in h2 hf
      obtain ⟨j3, hj3, hf⟩ := q_bd hf
      refine q_blf 5 [j3] (a := q_kc (t, r, m, z, N, ext, rx, L) I E 15 [some (.ref 483), some (.int x1), some (.int x2)] [] [] []) (b := q_kc (t, r, m, z, N, ext, rx, L) I E 11 [some (.ref 483), some (.int x1), some (.int x2)] [] [] []) (P := ¬ ((I 485) j3) = (-1 : Int32)) ok_X4_add rfl (q_cc hj3 q_cn) (fun h4 => ?_) (fun h4 => ?_)
      · have hf := q_ip h4 hf
        refine q_blk 1 [] (c' := q_kc (t, r, m, z, N, ext, rx, L) I E 16 [some (.ref 483), some (.int x1), some (.int x2)] [.int (0 : Int32)] [] []) ok_X4_add rfl q_cn ?_
        cases hf
        exact q_kri ok_X4_add rfl rfl rfl (Nat.le_of_ble_eq_true rfl) (Nat.le_of_ble_eq_true rfl) ⟨rfl, q_hpe (q_fin [483, 484, 485] rfl) (q_fin [] rfl)⟩
      · have hf := q_in h4 hf
        refine q_blf 3 [] (a := q_kc (t, r, m, z, N, ext, rx, L) I E 17 [some (.ref 483), some (.int x1), some (.int x2)] [] [] []) (b := q_kc (t, r, m, z, N, ext, rx, L) I E 15 [some (.ref 483), some (.int x1), some (.int x2)] [] [] []) (P := ((I 483) 2) < (128 : Int32)) ok_X4_add rfl q_cn (fun h5 => ?_) (fun h5 => ?_)
        · have hf := q_ip h5 hf
          obtain ⟨j6, hj6, hf⟩ := q_bd hf
          obtain ⟨j7, hj7, hf⟩ := q_bd hf
          refine q_blk 18 [j6, j7] (c' := q_kc (t, r, m, z, N, ext, rx, L) I E 35 [some (.ref 483), some (.int x1), some (.int x2)] [.int (1 : Int32)] [(483, (q_up (I 483) 2 (((I 483) 2) + (1 : Int32)))), (484, (q_up (I 484) j7 x1)), (485, (q_up (I 485) j6 x2))] []) ok_X4_add rfl (q_cc hj7 (q_cc hj6 q_cn)) ?_
          cases hf
          exact q_kri ok_X4_add rfl rfl rfl (Nat.le_of_ble_eq_true rfl) (Nat.le_of_ble_eq_true rfl) ⟨rfl, q_hpe (q_fin [483, 484, 485] rfl) (q_fin [] rfl)⟩
        · have hf := q_in h5 hf
          refine q_blk 1 [] (c' := q_kc (t, r, m, z, N, ext, rx, L) I E 16 [some (.ref 483), some (.int x1), some (.int x2)] [.int (0 : Int32)] [] []) ok_X4_add rfl q_cn ?_
          cases hf
          exact q_kri ok_X4_add rfl rfl rfl (Nat.le_of_ble_eq_true rfl) (Nat.le_of_ble_eq_true rfl) ⟨rfl, q_hpe (q_fin [483, 484, 485] rfl) (q_fin [] rfl)⟩
set_option maxHeartbeats 4000000 in
theorem lp_X5_gapFor_L4_481 {g : q_G} {d mc ms : Nat} {h0 : q_H} {Q : (Option Value ⊕ String) → q_H → Prop} {k n : Nat} {t : Nat} {r : Nat} {m : Nat} {z : Nat} {N : Nat} {ext : Nat → q_Sh} {rx : Nat → Nat → Option Nat} {L : Nat → Nat → Int64} (hd : 1 ≤ d) (hk : k ≤ mc) (hn : n ≤ ms)  {v1 : Int32} : ∀ (fu : Nat) {I : Nat → Nat → Int32} {E : Nat → Nat → Option Nat} {v2 : Int32} {v3 : Int32} {r0 : Nat × Int32 × Int32} (hf : f_X5_gapFor_L4 (I 481) (I 482) v1 fu v2 v3 = some r0) (hK0 : r0.1 = 0 → q_J g m_X5_gapFor d mc ms h0 [] Q k n (q_kc (t, r, m, z, N, ext, rx, L) I E 34 [none, none, none, none] [] [] [])) (hK1 : r0.1 = 1 → q_J g m_X5_gapFor d mc ms h0 [] Q k n (q_kc (t, r, m, z, N, ext, rx, L) I E 26 [none, none, some (.int r0.2.1), some (.int r0.2.2)] [] [] [])), q_J g m_X5_gapFor d mc ms h0 [] Q k n (4, [some (.ref 481), some (.int v1), some (.int v2), some (.int v3)], [], q_hp (t, r, m, z, N, ext, rx, L) I E) := by
  intro fu
  induction fu with
  | zero =>
    intro I E v2 v3 r0 hf hK0 hK1
    rw [f_X5_gapFor_L4] at hf
    cases hf
  | succ fu ih =>
    intro I E v2 v3 r0 hf hK0 hK1
    rw [f_X5_gapFor_L4] at hf
    change q_J g m_X5_gapFor d mc ms h0 [] Q k n (q_kc (t, r, m, z, N, ext, rx, L) I E 4 [some (.ref 481), some (.int v1), some (.int v2), some (.int v3)] [] [] [])
    refine q_blf 3 [] (a := q_kc (t, r, m, z, N, ext, rx, L) I E 34 [some (.ref 481), some (.int v1), some (.int v2), some (.int v3)] [] [] []) (b := q_kc (t, r, m, z, N, ext, rx, L) I E 8 [some (.ref 481), some (.int v1), some (.int v2), some (.int v3)] [] [] []) (P := ((I 481) 1) ≤ v3) ok_X5_gapFor rfl q_cn (fun h1 => ?_) (fun h1 => ?_)
    · have hf := q_ip h1 hf
      refine q_less (ls' := [none, none, none, none]) (q_sb1 (q_sb1 (q_sb1 (q_sb1 q_sb0)))) ?_
      cases hf
      exact q_Jpad [] [] rfl rfl (hK0 rfl)
    · have hf := q_in h1 hf
      refine q_blf 2 [] (a := q_kc (t, r, m, z, N, ext, rx, L) I E 34 [some (.ref 481), some (.int v1), some (.int v2), some (.int v3)] [] [] []) (b := q_kc (t, r, m, z, N, ext, rx, L) I E 11 [some (.ref 481), some (.int v1), some (.int v2), some (.int v3)] [] [] []) (P := (64 : Int32) ≤ v3) ok_X5_gapFor rfl q_cn (fun h2 => ?_) (fun h2 => ?_)
      · have hf := q_ip h2 hf
        refine q_less (ls' := [none, none, none, none]) (q_sb1 (q_sb1 (q_sb1 (q_sb1 q_sb0)))) ?_
        cases hf
        exact q_Jpad [] [] rfl rfl (hK0 rfl)
      · have hf := q_in h2 hf
        obtain ⟨j3, hj3, hf⟩ := q_bd hf
        refine q_blf 5 [j3] (a := q_kc (t, r, m, z, N, ext, rx, L) I E 21 [some (.ref 481), some (.int v1), some (.int v2), some (.int v3)] [] [] []) (b := q_kc (t, r, m, z, N, ext, rx, L) I E 17 [some (.ref 481), some (.int v1), some (.int v2), some (.int v3)] [] [] []) (P := ¬ ((I 482) j3) = (-1 : Int32)) ok_X5_gapFor rfl (q_cc hj3 q_cn) (fun h4 => ?_) (fun h4 => ?_)
        · have hf := q_ip h4 hf
          refine q_blf 4 [] (a := q_kc (t, r, m, z, N, ext, rx, L) I E 32 [some (.ref 481), some (.int v1), some (.int (0 : Int32)), some (.int v3)] [] [] []) (b := q_kc (t, r, m, z, N, ext, rx, L) I E 26 [some (.ref 481), some (.int v1), some (.int (0 : Int32)), some (.int v3)] [] [] []) (P := (0 : Int32) < v1) ok_X5_gapFor rfl q_cn (fun h5 => ?_) (fun h5 => ?_)
          · have hf := q_ip h5 hf
            refine q_blk 2 [] (c' := q_kc (t, r, m, z, N, ext, rx, L) I E 4 [some (.ref 481), some (.int v1), some (.int (0 : Int32)), some (.int (v3 + 1))] [] [] []) ok_X5_gapFor rfl q_cn ?_
            exact ih (I := q_ws I []) (E := q_ws E []) hf (fun hz => q_Jmrg rfl rfl (hK0 hz)) (fun hz => q_Jmrg rfl rfl (hK1 hz))
          · have hf := q_in h5 hf
            refine q_less (ls' := [none, none, some (.int (0 : Int32)), some (.int v3)]) (q_sb1 (q_sb1 (q_sb2 (q_sb2 q_sb0)))) ?_
            cases hf
            exact q_Jpad [] [] rfl rfl (hK1 rfl)
        · have hf := q_in h4 hf
          refine q_blf 7 [] (a := q_kc (t, r, m, z, N, ext, rx, L) I E 32 [some (.ref 481), some (.int v1), some (.int (v2 + (1 : Int32))), some (.int v3)] [] [] []) (b := q_kc (t, r, m, z, N, ext, rx, L) I E 26 [some (.ref 481), some (.int v1), some (.int (v2 + (1 : Int32))), some (.int v3)] [] [] []) (P := (v2 + (1 : Int32)) < v1) ok_X5_gapFor rfl q_cn (fun h6 => ?_) (fun h6 => ?_)
          · have hf := q_ip h6 hf
            refine q_blk 2 [] (c' := q_kc (t, r, m, z, N, ext, rx, L) I E 4 [some (.ref 481), some (.int v1), some (.int (v2 + (1 : Int32))), some (.int (v3 + 1))] [] [] []) ok_X5_gapFor rfl q_cn ?_
            exact ih (I := q_ws I []) (E := q_ws E []) hf (fun hz => q_Jmrg rfl rfl (hK0 hz)) (fun hz => q_Jmrg rfl rfl (hK1 hz))
          · have hf := q_in h6 hf
            refine q_less (ls' := [none, none, some (.int (v2 + (1 : Int32))), some (.int v3)]) (q_sb1 (q_sb1 (q_sb2 (q_sb2 q_sb0)))) ?_
            cases hf
            exact q_Jpad [] [] rfl rfl (hK1 rfl)
set_option maxHeartbeats 4000000 in
theorem ct_X5_gapFor_481 {g : q_G} {t : Nat} {r : Nat} {m : Nat} {z : Nat} {N : Nat} {ext : Nat → q_Sh} {rx : Nat → Nat → Option Nat} {L : Nat → Nat → Int64} {d : Nat} (hd : 1 ≤ d)  {I : Nat → Nat → Int32} {E : Nat → Nat → Option Nat} {x1 : Int32} {r0 : Int32} (hf : f_X5_gapFor (I 481) (I 482) x1 = some r0) : q_Ct g m_X5_gapFor d 0 0 [] [.ref 481, .int x1] (q_hp (t, r, m, z, N, ext, rx, L) I E) (fun o h' => o = .inl (some (.int r0)) ∧ h' = q_hp (t, r, m, z, N, ext, rx, L) (q_ws I []) (q_ws E [])) := by
  rw [f_X5_gapFor] at hf
  refine q_Ct_of ok_X5_gapFor (Nat.le_of_ble_eq_true rfl) ?_ _ rfl rfl
  change q_J g m_X5_gapFor d 0 0 _ [] _ 0 0 (q_kc (t, r, m, z, N, ext, rx, L) I E 0 [some (.ref 481), some (.int x1), none, none] [] [] [])
  refine q_blk 4 [] (c' := q_kc (t, r, m, z, N, ext, rx, L) I E 4 [some (.ref 481), some (.int x1), some (.int (0 : Int32)), some (.int (0 : Int32))] [] [] []) ok_X5_gapFor rfl q_cn ?_
  obtain ⟨r7, hr7, hf⟩ := q_bd hf
  refine lp_X5_gapFor_L4_481 (I := q_ws I []) (E := q_ws E []) hd (Nat.le_of_ble_eq_true rfl) (Nat.le_of_ble_eq_true rfl) 4096 hr7 ?_ ?_
  · intro hz0
    have hf := q_ip hz0 hf
    refine q_Jmrg (lI' := []) (lE' := []) rfl rfl ?_
    refine q_blk 1 [] (c' := q_kc (t, r, m, z, N, ext, rx, L) I E 35 [none, none, none, none] [.int (-1 : Int32)] [] []) ok_X5_gapFor rfl q_cn ?_
    cases hf
    exact q_kri ok_X5_gapFor rfl rfl rfl (Nat.le_of_ble_eq_true rfl) (Nat.le_of_ble_eq_true rfl) ⟨rfl, q_hpe (q_fin [] rfl) (q_fin [] rfl)⟩
  · intro hz1
    have hf := q_in (fun h9 => absurd (hz1.symm.trans h9) (by decide)) hf
    refine q_Jmrg (lI' := []) (lE' := []) rfl rfl ?_
    refine q_blk 5 [] (c' := q_kc (t, r, m, z, N, ext, rx, L) I E 31 [none, none, some (.int r7.2.1), some (.int r7.2.2)] [.int ((r7.2.2 + (1 : Int32)) - r7.2.1)] [] []) ok_X5_gapFor rfl q_cn ?_
    cases hf
    exact q_kri ok_X5_gapFor rfl rfl rfl (Nat.le_of_ble_eq_true rfl) (Nat.le_of_ble_eq_true rfl) ⟨rfl, q_hpe (q_fin [] rfl) (q_fin [] rfl)⟩
