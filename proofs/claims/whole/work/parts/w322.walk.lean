set_option maxHeartbeats 4000000 in
theorem ct_X14_useless_512 {g : q_G} {t : Nat} {r : Nat} {z : Nat} {N : Nat} {ext : Nat → q_Sh} {rx : Nat → Nat → Option Nat} {L : Nat → Nat → Int64} {d : Nat} (hd : 3 ≤ d)  {I : Nat → Nat → Int32} {E : Nat → Nat → Option Nat} {r0 : Int32 × (Nat → Int32) × (Nat → Int32) × (Nat → Int32)} (hf : f_X14_useless (I 492) (I 499) (I 510) (I 511) (I 513) (I 514) (I 517) (I 519) = some r0) : q_Ct g m_X14_useless d 0 0 [] [.ref 512] (q_hp (t, r, 1, z, N, ext, rx, L) I E) (fun o h' => o = .inl (some (.int r0.1)) ∧ h' = q_hp (t, r, 1, z, N, ext, rx, L) (q_ws I [(492, r0.2.1), (510, r0.2.2.1), (511, r0.2.2.2)]) (q_ws E [])) := by
  rw [f_X14_useless] at hf
  refine q_Ct_of ok_X14_useless (Nat.le_of_ble_eq_true rfl) ?_ _ rfl rfl
  change q_J g m_X14_useless d 0 0 _ [] _ 0 0 (q_kc (t, r, 1, z, N, ext, rx, L) I E 0 [some (.ref 512)] [] [] [])
  refine q_blk 1 [] (c' := q_kc (t, r, 1, z, N, ext, rx, L) I E 1 [some (.ref 512)] [.ref 512] [] []) ok_X14_useless rfl q_cn ?_
  obtain ⟨r1, hr1, hf⟩ := q_bd hf
  refine q_kV (M2 := m_X14_reach) (As := []) (b := 512) (v2 := none) ok_X14_useless ok_X14_reach cv_X14_reach (ct_X14_reach_512 (d := 2) (Nat.le_refl _) hr1) rfl rfl (Or.inl rfl) rfl rfl rfl rfl (Nat.le_trans (Nat.le_of_ble_eq_true rfl) hd) (Nat.le_of_ble_eq_true rfl) (Nat.le_of_ble_eq_true rfl) (Nat.le_of_ble_eq_true rfl) (fun x hx => absurd hx List.not_mem_nil) (q_nmL0 _) (q_nmS0 _) rfl (pos' := 2) (st' := []) (lI' := [(492, r1.1), (510, r1.2.1), (511, r1.2.2)]) (lE' := []) rfl rfl (q_mgw rfl rfl) rfl ?_
  refine q_blk 1 [] (c' := q_kc (t, r, 1, z, N, ext, rx, L) I E 3 [some (.ref 512)] [.ref 512] [(492, r1.1), (510, r1.2.1), (511, r1.2.2)] []) ok_X14_useless rfl q_cn ?_
  obtain ⟨r2, hr2, hf⟩ := q_bd hf
  refine q_kV (M2 := m_X14_bales_) (As := []) (b := 512) (v2 := some (.int r2)) ok_X14_useless ok_X14_bales_ cv_X14_bales_ (ct_X14_bales__512 (d := 2) (Nat.le_refl _) hr2) rfl rfl (Or.inl rfl) rfl rfl rfl rfl (Nat.le_trans (Nat.le_of_ble_eq_true rfl) hd) (Nat.le_of_ble_eq_true rfl) (Nat.le_of_ble_eq_true rfl) (Nat.le_of_ble_eq_true rfl) (fun x hx => absurd hx List.not_mem_nil) (q_nmL0 _) (q_nmS0 _) rfl (pos' := 4) (st' := [.int r2]) (lI' := [(492, r1.1), (510, r1.2.1), (511, r1.2.2)]) (lE' := []) rfl rfl rfl rfl ?_
  refine q_blk 4 [] (c' := q_kc (t, r, 1, z, N, ext, rx, L) I E 8 [some (.ref 512)] [.int (r2 - (r1.1 16))] [(492, r1.1), (510, r1.2.1), (511, r1.2.2)] []) ok_X14_useless rfl q_cn ?_
  cases hf
  exact q_kri ok_X14_useless rfl rfl rfl (Nat.le_of_ble_eq_true rfl) (Nat.le_of_ble_eq_true rfl) ⟨rfl, q_hpe (q_pdw [492, 510, 511] rfl rfl) (q_pdw [] rfl rfl)⟩
set_option maxHeartbeats 4000000 in
theorem ct_X15_uselessBales_492 {g : q_G} {t : Nat} {r : Nat} {z : Nat} {N : Nat} {ext : Nat → q_Sh} {rx : Nat → Nat → Option Nat} {L : Nat → Nat → Int64} {d : Nat} (hd : 4 ≤ d)  {I : Nat → Nat → Int32} {E : Nat → Nat → Option Nat} {r0 : Int32 × (Nat → Int32) × (Nat → Int32) × (Nat → Int32)} (hf : f_X15_uselessBales (I 492) (I 499) (I 510) (I 511) (I 513) (I 514) (I 517) (I 519) = some r0) : q_Ct g m_X15_uselessBales d 0 0 [] [.ref 492] (q_hp (t, r, 1, z, N, ext, rx, L) I E) (fun o h' => o = .inl (some (.int r0.1)) ∧ h' = q_hp (t, r, 1, z, N, ext, rx, L) (q_ws I [(492, r0.2.1), (510, r0.2.2.1), (511, r0.2.2.2)]) (q_ws E [])) := by
  rw [f_X15_uselessBales] at hf
  refine q_Ct_of ok_X15_uselessBales (Nat.le_of_ble_eq_true rfl) ?_ _ rfl rfl
  change q_J g m_X15_uselessBales d 0 0 _ [] _ 0 0 (q_kc (t, r, 1, z, N, ext, rx, L) I E 0 [some (.ref 492)] [] [] [])
  refine q_blk 3 [] (c' := q_kc (t, r, 1, z, N, ext, rx, L) I E 3 [some (.ref 492)] [.ref 512, .ref 492] [] []) ok_X15_uselessBales rfl q_cn ?_
  obtain ⟨r1, hr1, hf⟩ := q_bd hf
  refine q_kV (M2 := m_X14_useless) (As := []) (b := 512) (v2 := some (.int r1.1)) ok_X15_uselessBales ok_X14_useless cv_X14_useless (ct_X14_useless_512 (d := 3) (Nat.le_refl _) hr1) rfl rfl (Or.inl rfl) rfl rfl rfl rfl (Nat.le_trans (Nat.le_of_ble_eq_true rfl) hd) (Nat.le_of_ble_eq_true rfl) (Nat.le_of_ble_eq_true rfl) (Nat.le_of_ble_eq_true rfl) (fun x hx => absurd hx List.not_mem_nil) (q_nmL0 _) (q_nmS0 _) rfl (pos' := 4) (st' := [.int r1.1, .ref 492]) (lI' := [(492, r1.2.1), (510, r1.2.2.1), (511, r1.2.2.2)]) (lE' := []) rfl rfl (q_mgw rfl rfl) rfl ?_
  obtain ⟨r2, hr2, hf⟩ := q_bd hf
  refine q_kV (M2 := m_X15_ok) (As := [.int r1.1]) (b := 492) (v2 := some (.int r2.1)) ok_X15_uselessBales ok_X15_ok cv_X15_ok (ct_X15_ok_492 (d := 1) (Nat.le_refl _) hr2) rfl rfl (Or.inl rfl) rfl rfl rfl rfl (Nat.le_trans (Nat.le_of_ble_eq_true rfl) hd) (Nat.le_of_ble_eq_true rfl) (Nat.le_of_ble_eq_true rfl) (Nat.le_of_ble_eq_true rfl) (fun x hx => absurd hx List.not_mem_nil) (q_nmL0 _) (q_nmS0 _) rfl (pos' := 5) (st' := [.int r2.1]) (lI' := [(492, r2.2), (510, r1.2.2.1), (511, r1.2.2.2)]) (lE' := []) rfl rfl (q_mgw rfl rfl) rfl ?_
  cases hf
  exact q_kri ok_X15_uselessBales rfl rfl rfl (Nat.le_of_ble_eq_true rfl) (Nat.le_of_ble_eq_true rfl) ⟨rfl, q_hpe (q_pdw [492, 510, 511] rfl rfl) (q_pdw [] rfl rfl)⟩
set_option maxHeartbeats 4000000 in
theorem ct_X15_copyings_492 {g : q_G} {t : Nat} {r : Nat} {z : Nat} {N : Nat} {ext : Nat → q_Sh} {rx : Nat → Nat → Option Nat} {L : Nat → Nat → Int64} {d : Nat} (hd : 2 ≤ d)  {I : Nat → Nat → Int32} {E : Nat → Nat → Option Nat} {r0 : Int32 × (Nat → Int32)} (hf : f_X15_copyings (I 492) (I 512) = some r0) : q_Ct g m_X15_copyings d 0 0 [] [.ref 492] (q_hp (t, r, 1, z, N, ext, rx, L) I E) (fun o h' => o = .inl (some (.int r0.1)) ∧ h' = q_hp (t, r, 1, z, N, ext, rx, L) (q_ws I [(492, r0.2)]) (q_ws E [])) := by
  rw [f_X15_copyings] at hf
  refine q_Ct_of ok_X15_copyings (Nat.le_of_ble_eq_true rfl) ?_ _ rfl rfl
  change q_J g m_X15_copyings d 0 0 _ [] _ 0 0 (q_kc (t, r, 1, z, N, ext, rx, L) I E 0 [some (.ref 492)] [] [] [])
  refine q_blk 4 [] (c' := q_kc (t, r, 1, z, N, ext, rx, L) I E 4 [some (.ref 492)] [.int ((I 512) 3), .ref 492] [] []) ok_X15_copyings rfl q_cn ?_
  obtain ⟨r1, hr1, hf⟩ := q_bd hf
  refine q_kV (M2 := m_X15_ok) (As := [.int ((I 512) 3)]) (b := 492) (v2 := some (.int r1.1)) ok_X15_copyings ok_X15_ok cv_X15_ok (ct_X15_ok_492 (d := 1) (Nat.le_refl _) hr1) rfl rfl (Or.inl rfl) rfl rfl rfl rfl (Nat.le_trans (Nat.le_of_ble_eq_true rfl) hd) (Nat.le_of_ble_eq_true rfl) (Nat.le_of_ble_eq_true rfl) (Nat.le_of_ble_eq_true rfl) (fun x hx => absurd hx List.not_mem_nil) (q_nmL0 _) (q_nmS0 _) rfl (pos' := 5) (st' := [.int r1.1]) (lI' := [(492, r1.2)]) (lE' := []) rfl rfl (q_mgw rfl rfl) rfl ?_
  cases hf
  exact q_kri ok_X15_copyings rfl rfl rfl (Nat.le_of_ble_eq_true rfl) (Nat.le_of_ble_eq_true rfl) ⟨rfl, q_hpe (q_pdw [492] rfl rfl) (q_pdw [] rfl rfl)⟩
set_option maxHeartbeats 4000000 in
theorem ct_X15_balesPromoted_492 {g : q_G} {t : Nat} {r : Nat} {z : Nat} {N : Nat} {ext : Nat → q_Sh} {rx : Nat → Nat → Option Nat} {L : Nat → Nat → Int64} {d : Nat} (hd : 2 ≤ d)  {I : Nat → Nat → Int32} {E : Nat → Nat → Option Nat} {r0 : Int32 × (Nat → Int32)} (hf : f_X15_balesPromoted (I 492) (I 512) = some r0) : q_Ct g m_X15_balesPromoted d 0 0 [] [.ref 492] (q_hp (t, r, 1, z, N, ext, rx, L) I E) (fun o h' => o = .inl (some (.int r0.1)) ∧ h' = q_hp (t, r, 1, z, N, ext, rx, L) (q_ws I [(492, r0.2)]) (q_ws E [])) := by
  rw [f_X15_balesPromoted] at hf
  refine q_Ct_of ok_X15_balesPromoted (Nat.le_of_ble_eq_true rfl) ?_ _ rfl rfl
  change q_J g m_X15_balesPromoted d 0 0 _ [] _ 0 0 (q_kc (t, r, 1, z, N, ext, rx, L) I E 0 [some (.ref 492)] [] [] [])
  refine q_blk 4 [] (c' := q_kc (t, r, 1, z, N, ext, rx, L) I E 4 [some (.ref 492)] [.int ((I 512) 4), .ref 492] [] []) ok_X15_balesPromoted rfl q_cn ?_
  obtain ⟨r1, hr1, hf⟩ := q_bd hf
  refine q_kV (M2 := m_X15_ok) (As := [.int ((I 512) 4)]) (b := 492) (v2 := some (.int r1.1)) ok_X15_balesPromoted ok_X15_ok cv_X15_ok (ct_X15_ok_492 (d := 1) (Nat.le_refl _) hr1) rfl rfl (Or.inl rfl) rfl rfl rfl rfl (Nat.le_trans (Nat.le_of_ble_eq_true rfl) hd) (Nat.le_of_ble_eq_true rfl) (Nat.le_of_ble_eq_true rfl) (Nat.le_of_ble_eq_true rfl) (fun x hx => absurd hx List.not_mem_nil) (q_nmL0 _) (q_nmS0 _) rfl (pos' := 5) (st' := [.int r1.1]) (lI' := [(492, r1.2)]) (lE' := []) rfl rfl (q_mgw rfl rfl) rfl ?_
  cases hf
  exact q_kri ok_X15_balesPromoted rfl rfl rfl (Nat.le_of_ble_eq_true rfl) (Nat.le_of_ble_eq_true rfl) ⟨rfl, q_hpe (q_pdw [492] rfl rfl) (q_pdw [] rfl rfl)⟩
set_option maxHeartbeats 4000000 in
theorem ct_X15_balesGone_492 {g : q_G} {t : Nat} {r : Nat} {z : Nat} {N : Nat} {ext : Nat → q_Sh} {rx : Nat → Nat → Option Nat} {L : Nat → Nat → Int64} {d : Nat} (hd : 2 ≤ d)  {I : Nat → Nat → Int32} {E : Nat → Nat → Option Nat} {r0 : Int32 × (Nat → Int32)} (hf : f_X15_balesGone (I 492) (I 512) = some r0) : q_Ct g m_X15_balesGone d 0 0 [] [.ref 492] (q_hp (t, r, 1, z, N, ext, rx, L) I E) (fun o h' => o = .inl (some (.int r0.1)) ∧ h' = q_hp (t, r, 1, z, N, ext, rx, L) (q_ws I [(492, r0.2)]) (q_ws E [])) := by
  rw [f_X15_balesGone] at hf
  refine q_Ct_of ok_X15_balesGone (Nat.le_of_ble_eq_true rfl) ?_ _ rfl rfl
  change q_J g m_X15_balesGone d 0 0 _ [] _ 0 0 (q_kc (t, r, 1, z, N, ext, rx, L) I E 0 [some (.ref 492)] [] [] [])
  refine q_blk 4 [] (c' := q_kc (t, r, 1, z, N, ext, rx, L) I E 4 [some (.ref 492)] [.int ((I 512) 5), .ref 492] [] []) ok_X15_balesGone rfl q_cn ?_
  obtain ⟨r1, hr1, hf⟩ := q_bd hf
  refine q_kV (M2 := m_X15_ok) (As := [.int ((I 512) 5)]) (b := 492) (v2 := some (.int r1.1)) ok_X15_balesGone ok_X15_ok cv_X15_ok (ct_X15_ok_492 (d := 1) (Nat.le_refl _) hr1) rfl rfl (Or.inl rfl) rfl rfl rfl rfl (Nat.le_trans (Nat.le_of_ble_eq_true rfl) hd) (Nat.le_of_ble_eq_true rfl) (Nat.le_of_ble_eq_true rfl) (Nat.le_of_ble_eq_true rfl) (fun x hx => absurd hx List.not_mem_nil) (q_nmL0 _) (q_nmS0 _) rfl (pos' := 5) (st' := [.int r1.1]) (lI' := [(492, r1.2)]) (lE' := []) rfl rfl (q_mgw rfl rfl) rfl ?_
  cases hf
  exact q_kri ok_X15_balesGone rfl rfl rfl (Nat.le_of_ble_eq_true rfl) (Nat.le_of_ble_eq_true rfl) ⟨rfl, q_hpe (q_pdw [492] rfl rfl) (q_pdw [] rfl rfl)⟩
set_option maxHeartbeats 4000000 in
theorem ct_X15_isHook_492 {g : q_G} {t : Nat} {r : Nat} {z : Nat} {N : Nat} {ext : Nat → q_Sh} {rx : Nat → Nat → Option Nat} {L : Nat → Nat → Int64} {d : Nat} (hd : 2 ≤ d)  {I : Nat → Nat → Int32} {E : Nat → Nat → Option Nat} {x1 : Int32} {r0 : Bool} (hf : f_X15_isHook (I 499) x1 = some r0) : q_Ct g m_X15_isHook d 0 0 [] [.ref 492, .int x1] (q_hp (t, r, 1, z, N, ext, rx, L) I E) (fun o h' => o = .inl (some (.int (q_bz r0))) ∧ h' = q_hp (t, r, 1, z, N, ext, rx, L) (q_ws I []) (q_ws E [])) := by
  rw [f_X15_isHook] at hf
  refine q_Ct_of ok_X15_isHook (Nat.le_of_ble_eq_true rfl) ?_ _ rfl rfl
  change q_J g m_X15_isHook d 0 0 _ [] _ 0 0 (q_kc (t, r, 1, z, N, ext, rx, L) I E 0 [some (.ref 492), some (.int x1)] [] [] [])
  refine q_blk 7 [] (c' := q_kc (t, r, 1, z, N, ext, rx, L) I E 7 [some (.ref 492), some (.int x1)] [.int (((I 499) 0) - (1 : Int32)), .int (0 : Int32), .int x1] [] []) ok_X15_isHook rfl q_cn ?_
  obtain ⟨r1, hr1, hf⟩ := q_bd hf
  refine q_kS (M2 := m_X15_isIn) (As := [.int x1, .int (0 : Int32), .int (((I 499) 0) - (1 : Int32))]) (v2 := some (.int (q_bz r1))) ok_X15_isHook ok_X15_isIn cs_X15_isIn (ct_X15_isIn (d := 1) (Nat.le_refl _) hr1) rfl rfl (Or.inl rfl) (Nat.le_trans (Nat.le_of_ble_eq_true rfl) hd) (Nat.le_of_ble_eq_true rfl) (Nat.le_of_ble_eq_true rfl) (Nat.le_of_ble_eq_true rfl) (fun x hx => absurd hx List.not_mem_nil) (q_nmL0 _) (q_nmS0 _) rfl (pos' := 8) (st' := [.int (q_bz r1)]) (lI' := []) (lE' := []) rfl rfl rfl rfl ?_
  cases hf
  exact q_kri ok_X15_isHook rfl rfl (q_bz_nr _) (Nat.le_of_ble_eq_true rfl) (Nat.le_of_ble_eq_true rfl) ⟨rfl, q_hpe (q_pdw [] rfl rfl) (q_pdw [] rfl rfl)⟩
set_option maxHeartbeats 4000000 in
theorem ct_X15_isNot_492 {g : q_G} {t : Nat} {r : Nat} {z : Nat} {N : Nat} {ext : Nat → q_Sh} {rx : Nat → Nat → Option Nat} {L : Nat → Nat → Int64} {d : Nat} (hd : 1 ≤ d)  {I : Nat → Nat → Int32} {E : Nat → Nat → Option Nat} {x1 : Int32} {r0 : Bool × (Nat → Int32)} (hf : f_X15_isNot (I 492) x1 = some r0) : q_Ct g m_X15_isNot d 0 0 [] [.ref 492, .int x1] (q_hp (t, r, 1, z, N, ext, rx, L) I E) (fun o h' => o = .inl (some (.int (q_bz r0.1))) ∧ h' = q_hp (t, r, 1, z, N, ext, rx, L) (q_ws I [(492, r0.2)]) (q_ws E [])) := by
  rw [f_X15_isNot] at hf
  refine q_Ct_of ok_X15_isNot (Nat.le_of_ble_eq_true rfl) ?_ _ rfl rfl
  change q_J g m_X15_isNot d 0 0 _ [] _ 0 0 (q_kc (t, r, 1, z, N, ext, rx, L) I E 0 [some (.ref 492), some (.int x1)] [] [] [])
  refine q_blk 4 [] (c' := q_kc (t, r, 1, z, N, ext, rx, L) I E 4 [some (.ref 492), some (.int x1)] [.int (0 : Int32)] [(492, (q_up (I 492) 0 x1))] []) ok_X15_isNot rfl q_cn ?_
  cases hf
  exact q_kri ok_X15_isNot rfl rfl rfl (Nat.le_of_ble_eq_true rfl) (Nat.le_of_ble_eq_true rfl) ⟨rfl, q_hpe (q_pdw [492] rfl rfl) (q_pdw [] rfl rfl)⟩
set_option maxHeartbeats 4000000 in
theorem ct_X15_holdsBale_492 {g : q_G} {t : Nat} {r : Nat} {z : Nat} {N : Nat} {ext : Nat → q_Sh} {rx : Nat → Nat → Option Nat} {L : Nat → Nat → Int64} {d : Nat} (hd : 3 ≤ d)  {I : Nat → Nat → Int32} {E : Nat → Nat → Option Nat} {x1 : Int32} {r0 : Bool × (Nat → Int32)} (hf : f_X15_holdsBale (I 492) (I 499) (I 513) x1 = some r0) : q_Ct g m_X15_holdsBale d 0 0 [] [.ref 492, .int x1] (q_hp (t, r, 1, z, N, ext, rx, L) I E) (fun o h' => o = .inl (some (.int (q_bz r0.1))) ∧ h' = q_hp (t, r, 1, z, N, ext, rx, L) (q_ws I [(492, r0.2)]) (q_ws E [])) := by
  rw [f_X15_holdsBale] at hf
  refine q_Ct_of ok_X15_holdsBale (Nat.le_of_ble_eq_true rfl) ?_ _ rfl rfl
  change q_J g m_X15_holdsBale d 0 0 _ [] _ 0 0 (q_kc (t, r, 1, z, N, ext, rx, L) I E 0 [some (.ref 492), some (.int x1)] [] [] [])
  refine q_blk 5 [] (c' := q_kc (t, r, 1, z, N, ext, rx, L) I E 5 [some (.ref 492), some (.int x1)] [.int x1, .ref 492] [(492, (q_up (I 492) 0 (0 : Int32)))] []) ok_X15_holdsBale rfl q_cn ?_
  obtain ⟨r1, hr1, hf⟩ := q_bd hf
  refine q_kV (M2 := m_X15_isHook) (As := [.int x1]) (b := 492) (v2 := some (.int (q_bz r1))) ok_X15_holdsBale ok_X15_isHook cv_X15_isHook (ct_X15_isHook_492 (d := 2) (Nat.le_refl _) hr1) rfl rfl (Or.inl rfl) rfl rfl rfl rfl (Nat.le_trans (Nat.le_of_ble_eq_true rfl) hd) (Nat.le_of_ble_eq_true rfl) (Nat.le_of_ble_eq_true rfl) (Nat.le_of_ble_eq_true rfl) (fun x hx => absurd hx List.not_mem_nil) (q_nmL0 _) (q_nmS0 _) rfl (pos' := 6) (st' := [.int (q_bz r1)]) (lI' := [(492, (q_up (I 492) 0 (0 : Int32)))]) (lE' := []) rfl rfl rfl rfl ?_
  refine q_blf 0 [] (a := q_kc (t, r, 1, z, N, ext, rx, L) I E 18 [some (.ref 492), some (.int x1)] [] [(492, (q_up (I 492) 0 (0 : Int32)))] []) (b := q_kc (t, r, 1, z, N, ext, rx, L) I E 7 [some (.ref 492), some (.int x1)] [] [(492, (q_up (I 492) 0 (0 : Int32)))] []) (P := (q_bz r1) = 0) ok_X15_holdsBale rfl q_cn (fun h2 => ?_) (fun h2 => ?_)
  · have hf := q_ip h2 hf
    refine q_blk 2 [] (c' := q_kc (t, r, 1, z, N, ext, rx, L) I E 20 [some (.ref 492), some (.int x1)] [.int (1 : Int32), .ref 492] [(492, (q_up (I 492) 0 (0 : Int32)))] []) ok_X15_holdsBale rfl q_cn ?_
    obtain ⟨r3, hr3, hf⟩ := q_bd hf
    refine q_kV (M2 := m_X15_isNot) (As := [.int (1 : Int32)]) (b := 492) (v2 := some (.int (q_bz r3.1))) ok_X15_holdsBale ok_X15_isNot cv_X15_isNot (ct_X15_isNot_492 (d := 1) (Nat.le_refl _) hr3) rfl rfl (Or.inl rfl) rfl rfl rfl rfl (Nat.le_trans (Nat.le_of_ble_eq_true rfl) hd) (Nat.le_of_ble_eq_true rfl) (Nat.le_of_ble_eq_true rfl) (Nat.le_of_ble_eq_true rfl) (fun x hx => absurd hx List.not_mem_nil) (q_nmL0 _) (q_nmS0 _) rfl (pos' := 21) (st' := [.int (q_bz r3.1)]) (lI' := [(492, r3.2)]) (lE' := []) rfl rfl (q_mgw rfl rfl) rfl ?_
    cases hf
    exact q_kri ok_X15_holdsBale rfl rfl (q_bz_nr _) (Nat.le_of_ble_eq_true rfl) (Nat.le_of_ble_eq_true rfl) ⟨rfl, q_hpe (q_pdw [492] rfl rfl) (q_pdw [] rfl rfl)⟩
  · have hf := q_in h2 hf
    obtain ⟨j4, hj4, hf⟩ := q_bd hf
    refine q_blf 6 [j4] (a := q_kc (t, r, 1, z, N, ext, rx, L) I E 16 [some (.ref 492), some (.int x1)] [] [(492, (q_up (I 492) 0 (0 : Int32)))] []) (b := q_kc (t, r, 1, z, N, ext, rx, L) I E 14 [some (.ref 492), some (.int x1)] [] [(492, (q_up (I 492) 0 (0 : Int32)))] []) (P := ((I 513) j4) = (-1 : Int32)) ok_X15_holdsBale rfl (q_cc hj4 q_cn) (fun h5 => ?_) (fun h5 => ?_)
    · have hf := q_ip h5 hf
      refine q_blk 2 [] (c' := q_kc (t, r, 1, z, N, ext, rx, L) I E 21 [some (.ref 492), some (.int x1)] [.int (0 : Int32)] [(492, (q_up (I 492) 0 (0 : Int32)))] []) ok_X15_holdsBale rfl q_cn ?_
      cases hf
      exact q_kri ok_X15_holdsBale rfl rfl rfl (Nat.le_of_ble_eq_true rfl) (Nat.le_of_ble_eq_true rfl) ⟨rfl, q_hpe (q_pdw [492] rfl rfl) (q_pdw [] rfl rfl)⟩
    · have hf := q_in h5 hf
      refine q_blk 2 [] (c' := q_kc (t, r, 1, z, N, ext, rx, L) I E 21 [some (.ref 492), some (.int x1)] [.int (1 : Int32)] [(492, (q_up (I 492) 0 (0 : Int32)))] []) ok_X15_holdsBale rfl q_cn ?_
      cases hf
      exact q_kri ok_X15_holdsBale rfl rfl rfl (Nat.le_of_ble_eq_true rfl) (Nat.le_of_ble_eq_true rfl) ⟨rfl, q_hpe (q_pdw [492] rfl rfl) (q_pdw [] rfl rfl)⟩
set_option maxHeartbeats 4000000 in
theorem ct_X15_bale_492 {g : q_G} {t : Nat} {r : Nat} {z : Nat} {N : Nat} {ext : Nat → q_Sh} {rx : Nat → Nat → Option Nat} {L : Nat → Nat → Int64} {d : Nat} (hd : 3 ≤ d)  {I : Nat → Nat → Int32} {E : Nat → Nat → Option Nat} {x1 : Int32} {r0 : Int32 × (Nat → Int32)} (hf : f_X15_bale (I 492) (I 499) (I 513) x1 = some r0) : q_Ct g m_X15_bale d 0 0 [] [.ref 492, .int x1] (q_hp (t, r, 1, z, N, ext, rx, L) I E) (fun o h' => o = .inl (some (.int r0.1)) ∧ h' = q_hp (t, r, 1, z, N, ext, rx, L) (q_ws I [(492, r0.2)]) (q_ws E [])) := by
  rw [f_X15_bale] at hf
  refine q_Ct_of ok_X15_bale (Nat.le_of_ble_eq_true rfl) ?_ _ rfl rfl
  change q_J g m_X15_bale d 0 0 _ [] _ 0 0 (q_kc (t, r, 1, z, N, ext, rx, L) I E 0 [some (.ref 492), some (.int x1)] [] [] [])
  refine q_blk 3 [] (c' := q_kc (t, r, 1, z, N, ext, rx, L) I E 3 [some (.ref 492), some (.int x1)] [.int x1, .ref 492, .ref 492] [] []) ok_X15_bale rfl q_cn ?_
  obtain ⟨r1, hr1, hf⟩ := q_bd hf
  refine q_kV (M2 := m_X15_isHook) (As := [.int x1]) (b := 492) (v2 := some (.int (q_bz r1))) ok_X15_bale ok_X15_isHook cv_X15_isHook (ct_X15_isHook_492 (d := 2) (Nat.le_refl _) hr1) rfl rfl (Or.inl rfl) rfl rfl rfl rfl (Nat.le_trans (Nat.le_of_ble_eq_true rfl) hd) (Nat.le_of_ble_eq_true rfl) (Nat.le_of_ble_eq_true rfl) (Nat.le_of_ble_eq_true rfl) (fun x hx => absurd hx List.not_mem_nil) (q_nmL0 _) (q_nmS0 _) rfl (pos' := 4) (st' := [.int (q_bz r1), .ref 492]) (lI' := []) (lE' := []) rfl rfl rfl rfl ?_
  refine q_blf 0 [] (a := q_kc (t, r, 1, z, N, ext, rx, L) I E 7 [some (.ref 492), some (.int x1)] [.ref 492] [] []) (b := q_kc (t, r, 1, z, N, ext, rx, L) I E 5 [some (.ref 492), some (.int x1)] [.ref 492] [] []) (P := ¬ (q_bz r1) = 0) ok_X15_bale rfl q_cn (fun h2 => ?_) (fun h2 => ?_)
  · have hf := q_ip h2 hf
    obtain ⟨j3, hj3, hf⟩ := q_bd hf
    refine q_blf 6 [j3] (a := q_kc (t, r, 1, z, N, ext, rx, L) I E 16 [some (.ref 492), some (.int x1)] [.ref 492] [] []) (b := q_kc (t, r, 1, z, N, ext, rx, L) I E 14 [some (.ref 492), some (.int x1)] [.ref 492] [] []) (P := ¬ ((I 513) j3) = (-1 : Int32)) ok_X15_bale rfl (q_cc hj3 q_cn) (fun h4 => ?_) (fun h4 => ?_)
    · have hf := q_ip h4 hf
      refine q_blf 4 [] (a := q_kc (t, r, 1, z, N, ext, rx, L) I E 27 [some (.ref 492), some (.int x1)] [] [(492, (q_up (I 492) 0 (0 : Int32)))] []) (b := q_kc (t, r, 1, z, N, ext, rx, L) I E 21 [some (.ref 492), some (.int x1)] [] [(492, (q_up (I 492) 0 (0 : Int32)))] []) (P := ¬ ((q_up (I 492) 0 (0 : Int32)) 0) = 0) ok_X15_bale rfl q_cn (fun h5 => ?_) (fun h5 => ?_)
      · have hf := q_ip h5 hf
        refine q_blk 1 [] (c' := q_kc (t, r, 1, z, N, ext, rx, L) I E 28 [some (.ref 492), some (.int x1)] [.int (-1 : Int32)] [(492, (q_up (I 492) 0 (0 : Int32)))] []) ok_X15_bale rfl q_cn ?_
        cases hf
        exact q_kri ok_X15_bale rfl rfl rfl (Nat.le_of_ble_eq_true rfl) (Nat.le_of_ble_eq_true rfl) ⟨rfl, q_hpe (q_pdw [492] rfl rfl) (q_pdw [] rfl rfl)⟩
      · have hf := q_in h5 hf
        obtain ⟨j6, hj6, hf⟩ := q_bd hf
        refine q_blk 6 [j6] (c' := q_kc (t, r, 1, z, N, ext, rx, L) I E 28 [some (.ref 492), some (.int x1)] [.int ((I 513) j6)] [(492, (q_up (I 492) 0 (0 : Int32)))] []) ok_X15_bale rfl (q_cc hj6 q_cn) ?_
        cases hf
        exact q_kri ok_X15_bale rfl rfl rfl (Nat.le_of_ble_eq_true rfl) (Nat.le_of_ble_eq_true rfl) ⟨rfl, q_hpe (q_pdw [492] rfl rfl) (q_pdw [] rfl rfl)⟩
    · have hf := q_in h4 hf
      refine q_blf 5 [] (a := q_kc (t, r, 1, z, N, ext, rx, L) I E 27 [some (.ref 492), some (.int x1)] [] [(492, (q_up (I 492) 0 (2 : Int32)))] []) (b := q_kc (t, r, 1, z, N, ext, rx, L) I E 21 [some (.ref 492), some (.int x1)] [] [(492, (q_up (I 492) 0 (2 : Int32)))] []) (P := ¬ ((q_up (I 492) 0 (2 : Int32)) 0) = 0) ok_X15_bale rfl q_cn (fun h7 => ?_) (fun h7 => ?_)
      · have hf := q_ip h7 hf
        refine q_blk 1 [] (c' := q_kc (t, r, 1, z, N, ext, rx, L) I E 28 [some (.ref 492), some (.int x1)] [.int (-1 : Int32)] [(492, (q_up (I 492) 0 (2 : Int32)))] []) ok_X15_bale rfl q_cn ?_
        cases hf
        exact q_kri ok_X15_bale rfl rfl rfl (Nat.le_of_ble_eq_true rfl) (Nat.le_of_ble_eq_true rfl) ⟨rfl, q_hpe (q_pdw [492] rfl rfl) (q_pdw [] rfl rfl)⟩
      · have hf := q_in h7 hf
        obtain ⟨j8, hj8, hf⟩ := q_bd hf
        refine q_blk 6 [j8] (c' := q_kc (t, r, 1, z, N, ext, rx, L) I E 28 [some (.ref 492), some (.int x1)] [.int ((I 513) j8)] [(492, (q_up (I 492) 0 (2 : Int32)))] []) ok_X15_bale rfl (q_cc hj8 q_cn) ?_
        cases hf
        exact q_kri ok_X15_bale rfl rfl rfl (Nat.le_of_ble_eq_true rfl) (Nat.le_of_ble_eq_true rfl) ⟨rfl, q_hpe (q_pdw [492] rfl rfl) (q_pdw [] rfl rfl)⟩
  · have hf := q_in h2 hf
    refine q_blf 5 [] (a := q_kc (t, r, 1, z, N, ext, rx, L) I E 27 [some (.ref 492), some (.int x1)] [] [(492, (q_up (I 492) 0 (1 : Int32)))] []) (b := q_kc (t, r, 1, z, N, ext, rx, L) I E 21 [some (.ref 492), some (.int x1)] [] [(492, (q_up (I 492) 0 (1 : Int32)))] []) (P := ¬ ((q_up (I 492) 0 (1 : Int32)) 0) = 0) ok_X15_bale rfl q_cn (fun h9 => ?_) (fun h9 => ?_)
    · have hf := q_ip h9 hf
      refine q_blk 1 [] (c' := q_kc (t, r, 1, z, N, ext, rx, L) I E 28 [some (.ref 492), some (.int x1)] [.int (-1 : Int32)] [(492, (q_up (I 492) 0 (1 : Int32)))] []) ok_X15_bale rfl q_cn ?_
      cases hf
      exact q_kri ok_X15_bale rfl rfl rfl (Nat.le_of_ble_eq_true rfl) (Nat.le_of_ble_eq_true rfl) ⟨rfl, q_hpe (q_pdw [492] rfl rfl) (q_pdw [] rfl rfl)⟩
    · have hf := q_in h9 hf
      obtain ⟨j10, hj10, hf⟩ := q_bd hf
      refine q_blk 6 [j10] (c' := q_kc (t, r, 1, z, N, ext, rx, L) I E 28 [some (.ref 492), some (.int x1)] [.int ((I 513) j10)] [(492, (q_up (I 492) 0 (1 : Int32)))] []) ok_X15_bale rfl (q_cc hj10 q_cn) ?_
      cases hf
      exact q_kri ok_X15_bale rfl rfl rfl (Nat.le_of_ble_eq_true rfl) (Nat.le_of_ble_eq_true rfl) ⟨rfl, q_hpe (q_pdw [492] rfl rfl) (q_pdw [] rfl rfl)⟩
set_option maxHeartbeats 4000000 in
theorem ct_X15_of_492_515 {g : q_G} {t : Nat} {r : Nat} {z : Nat} {N : Nat} {ext : Nat → q_Sh} {rx : Nat → Nat → Option Nat} {L : Nat → Nat → Int64} {d : Nat} (hd : 4 ≤ d)  {I : Nat → Nat → Int32} {E : Nat → Nat → Option Nat} {x1 : Int32} {r0 : Int32 × (Nat → Int32)} (hf : f_X15_of (I 492) (I 499) (I 513) (I 515) x1 = some r0) : q_Ct g m_X15_of d 0 0 [] [.ref 492, .int x1, .ref 515] (q_hp (t, r, 1, z, N, ext, rx, L) I E) (fun o h' => o = .inl (some (.int r0.1)) ∧ h' = q_hp (t, r, 1, z, N, ext, rx, L) (q_ws I [(492, r0.2)]) (q_ws E [])) := by
  rw [f_X15_of] at hf
  refine q_Ct_of ok_X15_of (Nat.le_of_ble_eq_true rfl) ?_ _ rfl rfl
  change q_J g m_X15_of d 0 0 _ [] _ 0 0 (q_kc (t, r, 1, z, N, ext, rx, L) I E 0 [some (.ref 492), some (.int x1), some (.ref 515), none] [] [] [])
  refine q_blk 2 [] (c' := q_kc (t, r, 1, z, N, ext, rx, L) I E 2 [some (.ref 492), some (.int x1), some (.ref 515), none] [.int x1, .ref 492] [] []) ok_X15_of rfl q_cn ?_
  obtain ⟨r1, hr1, hf⟩ := q_bd hf
  refine q_kV (M2 := m_X15_bale) (As := [.int x1]) (b := 492) (v2 := some (.int r1.1)) ok_X15_of ok_X15_bale cv_X15_bale (ct_X15_bale_492 (d := 3) (Nat.le_refl _) hr1) rfl rfl (Or.inl rfl) rfl rfl rfl rfl (Nat.le_trans (Nat.le_of_ble_eq_true rfl) hd) (Nat.le_of_ble_eq_true rfl) (Nat.le_of_ble_eq_true rfl) (Nat.le_of_ble_eq_true rfl) (fun x hx => absurd hx List.not_mem_nil) (q_nmL0 _) (q_nmS0 _) rfl (pos' := 3) (st' := [.int r1.1]) (lI' := [(492, r1.2)]) (lE' := []) rfl rfl (q_mgw rfl rfl) rfl ?_
  refine q_blf 3 [] (a := q_kc (t, r, 1, z, N, ext, rx, L) I E 9 [some (.ref 492), some (.int x1), some (.ref 515), some (.int r1.1)] [] [(492, r1.2)] []) (b := q_kc (t, r, 1, z, N, ext, rx, L) I E 7 [some (.ref 492), some (.int x1), some (.ref 515), some (.int r1.1)] [] [(492, r1.2)] []) (P := ¬ r1.1 = (-1 : Int32)) ok_X15_of rfl q_cn (fun h2 => ?_) (fun h2 => ?_)
  · have hf := q_ip h2 hf
    obtain ⟨j3, hj3, hf⟩ := q_bd hf
    refine q_blk 3 [j3] (c' := q_kc (t, r, 1, z, N, ext, rx, L) I E 12 [some (.ref 492), some (.int x1), some (.ref 515), some (.int r1.1)] [.int ((I 515) j3)] [(492, r1.2)] []) ok_X15_of rfl (q_cc hj3 q_cn) ?_
    cases hf
    exact q_kri ok_X15_of rfl rfl rfl (Nat.le_of_ble_eq_true rfl) (Nat.le_of_ble_eq_true rfl) ⟨rfl, q_hpe (q_pdw [492] rfl rfl) (q_pdw [] rfl rfl)⟩
  · have hf := q_in h2 hf
    refine q_blk 2 [] (c' := q_kc (t, r, 1, z, N, ext, rx, L) I E 12 [some (.ref 492), some (.int x1), some (.ref 515), some (.int r1.1)] [.int (0 : Int32)] [(492, r1.2)] []) ok_X15_of rfl q_cn ?_
    cases hf
    exact q_kri ok_X15_of rfl rfl rfl (Nat.le_of_ble_eq_true rfl) (Nat.le_of_ble_eq_true rfl) ⟨rfl, q_hpe (q_pdw [492] rfl rfl) (q_pdw [] rfl rfl)⟩
set_option maxHeartbeats 4000000 in
theorem ct_X15_placeOf_492 {g : q_G} {t : Nat} {r : Nat} {z : Nat} {N : Nat} {ext : Nat → q_Sh} {rx : Nat → Nat → Option Nat} {L : Nat → Nat → Int64} {d : Nat} (hd : 5 ≤ d)  {I : Nat → Nat → Int32} {E : Nat → Nat → Option Nat} {x1 : Int32} {r0 : Int32 × (Nat → Int32)} (hf : f_X15_placeOf (I 492) (I 499) (I 513) (I 515) x1 = some r0) : q_Ct g m_X15_placeOf d 0 0 [] [.ref 492, .int x1] (q_hp (t, r, 1, z, N, ext, rx, L) I E) (fun o h' => o = .inl (some (.int r0.1)) ∧ h' = q_hp (t, r, 1, z, N, ext, rx, L) (q_ws I [(492, r0.2)]) (q_ws E [])) := by
  rw [f_X15_placeOf] at hf
  refine q_Ct_of ok_X15_placeOf (Nat.le_of_ble_eq_true rfl) ?_ _ rfl rfl
  change q_J g m_X15_placeOf d 0 0 _ [] _ 0 0 (q_kc (t, r, 1, z, N, ext, rx, L) I E 0 [some (.ref 492), some (.int x1)] [] [] [])
  refine q_blk 5 [] (c' := q_kc (t, r, 1, z, N, ext, rx, L) I E 5 [some (.ref 492), some (.int x1)] [.ref 515, .int x1, .ref 492] [] []) ok_X15_placeOf rfl q_cn ?_
  obtain ⟨r1, hr1, hf⟩ := q_bd hf
  refine q_kV (M2 := m_X15_of) (As := [.int x1, .ref 515]) (b := 492) (v2 := some (.int r1.1)) ok_X15_placeOf ok_X15_of cv_X15_of (ct_X15_of_492_515 (d := 4) (Nat.le_refl _) hr1) rfl rfl (Or.inl rfl) rfl rfl rfl rfl (Nat.le_trans (Nat.le_of_ble_eq_true rfl) hd) (Nat.le_of_ble_eq_true rfl) (Nat.le_of_ble_eq_true rfl) (Nat.le_of_ble_eq_true rfl) (fun x hx => absurd hx List.not_mem_nil) (q_nmL0 _) (q_nmS0 _) rfl (pos' := 6) (st' := [.int r1.1]) (lI' := [(492, r1.2)]) (lE' := []) rfl rfl (q_mgw rfl rfl) rfl ?_
  cases hf
  exact q_kri ok_X15_placeOf rfl rfl rfl (Nat.le_of_ble_eq_true rfl) (Nat.le_of_ble_eq_true rfl) ⟨rfl, q_hpe (q_pdw [492] rfl rfl) (q_pdw [] rfl rfl)⟩
set_option maxHeartbeats 4000000 in
theorem ct_X15_of_492_516 {g : q_G} {t : Nat} {r : Nat} {z : Nat} {N : Nat} {ext : Nat → q_Sh} {rx : Nat → Nat → Option Nat} {L : Nat → Nat → Int64} {d : Nat} (hd : 4 ≤ d)  {I : Nat → Nat → Int32} {E : Nat → Nat → Option Nat} {x1 : Int32} {r0 : Int32 × (Nat → Int32)} (hf : f_X15_of__2 (I 492) (I 499) (I 513) (I 516) x1 = some r0) : q_Ct g m_X15_of d 0 0 [] [.ref 492, .int x1, .ref 516] (q_hp (t, r, 1, z, N, ext, rx, L) I E) (fun o h' => o = .inl (some (.int r0.1)) ∧ h' = q_hp (t, r, 1, z, N, ext, rx, L) (q_ws I [(492, r0.2)]) (q_ws E [])) := by
  rw [f_X15_of__2] at hf
  refine q_Ct_of ok_X15_of (Nat.le_of_ble_eq_true rfl) ?_ _ rfl rfl
  change q_J g m_X15_of d 0 0 _ [] _ 0 0 (q_kc (t, r, 1, z, N, ext, rx, L) I E 0 [some (.ref 492), some (.int x1), some (.ref 516), none] [] [] [])
  refine q_blk 2 [] (c' := q_kc (t, r, 1, z, N, ext, rx, L) I E 2 [some (.ref 492), some (.int x1), some (.ref 516), none] [.int x1, .ref 492] [] []) ok_X15_of rfl q_cn ?_
  obtain ⟨r1, hr1, hf⟩ := q_bd hf
  refine q_kV (M2 := m_X15_bale) (As := [.int x1]) (b := 492) (v2 := some (.int r1.1)) ok_X15_of ok_X15_bale cv_X15_bale (ct_X15_bale_492 (d := 3) (Nat.le_refl _) hr1) rfl rfl (Or.inl rfl) rfl rfl rfl rfl (Nat.le_trans (Nat.le_of_ble_eq_true rfl) hd) (Nat.le_of_ble_eq_true rfl) (Nat.le_of_ble_eq_true rfl) (Nat.le_of_ble_eq_true rfl) (fun x hx => absurd hx List.not_mem_nil) (q_nmL0 _) (q_nmS0 _) rfl (pos' := 3) (st' := [.int r1.1]) (lI' := [(492, r1.2)]) (lE' := []) rfl rfl (q_mgw rfl rfl) rfl ?_
  refine q_blf 3 [] (a := q_kc (t, r, 1, z, N, ext, rx, L) I E 9 [some (.ref 492), some (.int x1), some (.ref 516), some (.int r1.1)] [] [(492, r1.2)] []) (b := q_kc (t, r, 1, z, N, ext, rx, L) I E 7 [some (.ref 492), some (.int x1), some (.ref 516), some (.int r1.1)] [] [(492, r1.2)] []) (P := ¬ r1.1 = (-1 : Int32)) ok_X15_of rfl q_cn (fun h2 => ?_) (fun h2 => ?_)
  · have hf := q_ip h2 hf
    obtain ⟨j3, hj3, hf⟩ := q_bd hf
    refine q_blk 3 [j3] (c' := q_kc (t, r, 1, z, N, ext, rx, L) I E 12 [some (.ref 492), some (.int x1), some (.ref 516), some (.int r1.1)] [.int ((I 516) j3)] [(492, r1.2)] []) ok_X15_of rfl (q_cc hj3 q_cn) ?_
    cases hf
    exact q_kri ok_X15_of rfl rfl rfl (Nat.le_of_ble_eq_true rfl) (Nat.le_of_ble_eq_true rfl) ⟨rfl, q_hpe (q_pdw [492] rfl rfl) (q_pdw [] rfl rfl)⟩
  · have hf := q_in h2 hf
    refine q_blk 2 [] (c' := q_kc (t, r, 1, z, N, ext, rx, L) I E 12 [some (.ref 492), some (.int x1), some (.ref 516), some (.int r1.1)] [.int (0 : Int32)] [(492, r1.2)] []) ok_X15_of rfl q_cn ?_
    cases hf
    exact q_kri ok_X15_of rfl rfl rfl (Nat.le_of_ble_eq_true rfl) (Nat.le_of_ble_eq_true rfl) ⟨rfl, q_hpe (q_pdw [492] rfl rfl) (q_pdw [] rfl rfl)⟩
set_option maxHeartbeats 4000000 in
theorem ct_X15_sizeOf_492 {g : q_G} {t : Nat} {r : Nat} {z : Nat} {N : Nat} {ext : Nat → q_Sh} {rx : Nat → Nat → Option Nat} {L : Nat → Nat → Int64} {d : Nat} (hd : 5 ≤ d)  {I : Nat → Nat → Int32} {E : Nat → Nat → Option Nat} {x1 : Int32} {r0 : Int32 × (Nat → Int32)} (hf : f_X15_sizeOf (I 492) (I 499) (I 513) (I 516) x1 = some r0) : q_Ct g m_X15_sizeOf d 0 0 [] [.ref 492, .int x1] (q_hp (t, r, 1, z, N, ext, rx, L) I E) (fun o h' => o = .inl (some (.int r0.1)) ∧ h' = q_hp (t, r, 1, z, N, ext, rx, L) (q_ws I [(492, r0.2)]) (q_ws E [])) := by
  rw [f_X15_sizeOf] at hf
  refine q_Ct_of ok_X15_sizeOf (Nat.le_of_ble_eq_true rfl) ?_ _ rfl rfl
  change q_J g m_X15_sizeOf d 0 0 _ [] _ 0 0 (q_kc (t, r, 1, z, N, ext, rx, L) I E 0 [some (.ref 492), some (.int x1)] [] [] [])
  refine q_blk 5 [] (c' := q_kc (t, r, 1, z, N, ext, rx, L) I E 5 [some (.ref 492), some (.int x1)] [.ref 516, .int x1, .ref 492] [] []) ok_X15_sizeOf rfl q_cn ?_
  obtain ⟨r1, hr1, hf⟩ := q_bd hf
  refine q_kV (M2 := m_X15_of) (As := [.int x1, .ref 516]) (b := 492) (v2 := some (.int r1.1)) ok_X15_sizeOf ok_X15_of cv_X15_of (ct_X15_of_492_516 (d := 4) (Nat.le_refl _) hr1) rfl rfl (Or.inl rfl) rfl rfl rfl rfl (Nat.le_trans (Nat.le_of_ble_eq_true rfl) hd) (Nat.le_of_ble_eq_true rfl) (Nat.le_of_ble_eq_true rfl) (Nat.le_of_ble_eq_true rfl) (fun x hx => absurd hx List.not_mem_nil) (q_nmL0 _) (q_nmS0 _) rfl (pos' := 6) (st' := [.int r1.1]) (lI' := [(492, r1.2)]) (lE' := []) rfl rfl (q_mgw rfl rfl) rfl ?_
  cases hf
  exact q_kri ok_X15_sizeOf rfl rfl rfl (Nat.le_of_ble_eq_true rfl) (Nat.le_of_ble_eq_true rfl) ⟨rfl, q_hpe (q_pdw [492] rfl rfl) (q_pdw [] rfl rfl)⟩
set_option maxHeartbeats 4000000 in
theorem ct_X15_of_492_517 {g : q_G} {t : Nat} {r : Nat} {z : Nat} {N : Nat} {ext : Nat → q_Sh} {rx : Nat → Nat → Option Nat} {L : Nat → Nat → Int64} {d : Nat} (hd : 4 ≤ d)  {I : Nat → Nat → Int32} {E : Nat → Nat → Option Nat} {x1 : Int32} {r0 : Int32 × (Nat → Int32)} (hf : f_X15_of__3 (I 492) (I 499) (I 513) (I 517) x1 = some r0) : q_Ct g m_X15_of d 0 0 [] [.ref 492, .int x1, .ref 517] (q_hp (t, r, 1, z, N, ext, rx, L) I E) (fun o h' => o = .inl (some (.int r0.1)) ∧ h' = q_hp (t, r, 1, z, N, ext, rx, L) (q_ws I [(492, r0.2)]) (q_ws E [])) := by
  rw [f_X15_of__3] at hf
  refine q_Ct_of ok_X15_of (Nat.le_of_ble_eq_true rfl) ?_ _ rfl rfl
  change q_J g m_X15_of d 0 0 _ [] _ 0 0 (q_kc (t, r, 1, z, N, ext, rx, L) I E 0 [some (.ref 492), some (.int x1), some (.ref 517), none] [] [] [])
  refine q_blk 2 [] (c' := q_kc (t, r, 1, z, N, ext, rx, L) I E 2 [some (.ref 492), some (.int x1), some (.ref 517), none] [.int x1, .ref 492] [] []) ok_X15_of rfl q_cn ?_
  obtain ⟨r1, hr1, hf⟩ := q_bd hf
  refine q_kV (M2 := m_X15_bale) (As := [.int x1]) (b := 492) (v2 := some (.int r1.1)) ok_X15_of ok_X15_bale cv_X15_bale (ct_X15_bale_492 (d := 3) (Nat.le_refl _) hr1) rfl rfl (Or.inl rfl) rfl rfl rfl rfl (Nat.le_trans (Nat.le_of_ble_eq_true rfl) hd) (Nat.le_of_ble_eq_true rfl) (Nat.le_of_ble_eq_true rfl) (Nat.le_of_ble_eq_true rfl) (fun x hx => absurd hx List.not_mem_nil) (q_nmL0 _) (q_nmS0 _) rfl (pos' := 3) (st' := [.int r1.1]) (lI' := [(492, r1.2)]) (lE' := []) rfl rfl (q_mgw rfl rfl) rfl ?_
  refine q_blf 3 [] (a := q_kc (t, r, 1, z, N, ext, rx, L) I E 9 [some (.ref 492), some (.int x1), some (.ref 517), some (.int r1.1)] [] [(492, r1.2)] []) (b := q_kc (t, r, 1, z, N, ext, rx, L) I E 7 [some (.ref 492), some (.int x1), some (.ref 517), some (.int r1.1)] [] [(492, r1.2)] []) (P := ¬ r1.1 = (-1 : Int32)) ok_X15_of rfl q_cn (fun h2 => ?_) (fun h2 => ?_)
  · have hf := q_ip h2 hf
    obtain ⟨j3, hj3, hf⟩ := q_bd hf
    refine q_blk 3 [j3] (c' := q_kc (t, r, 1, z, N, ext, rx, L) I E 12 [some (.ref 492), some (.int x1), some (.ref 517), some (.int r1.1)] [.int ((I 517) j3)] [(492, r1.2)] []) ok_X15_of rfl (q_cc hj3 q_cn) ?_
    cases hf
    exact q_kri ok_X15_of rfl rfl rfl (Nat.le_of_ble_eq_true rfl) (Nat.le_of_ble_eq_true rfl) ⟨rfl, q_hpe (q_pdw [492] rfl rfl) (q_pdw [] rfl rfl)⟩
  · have hf := q_in h2 hf
    refine q_blk 2 [] (c' := q_kc (t, r, 1, z, N, ext, rx, L) I E 12 [some (.ref 492), some (.int x1), some (.ref 517), some (.int r1.1)] [.int (0 : Int32)] [(492, r1.2)] []) ok_X15_of rfl q_cn ?_
    cases hf
    exact q_kri ok_X15_of rfl rfl rfl (Nat.le_of_ble_eq_true rfl) (Nat.le_of_ble_eq_true rfl) ⟨rfl, q_hpe (q_pdw [492] rfl rfl) (q_pdw [] rfl rfl)⟩
set_option maxHeartbeats 4000000 in
theorem ct_X15_ropesOf_492 {g : q_G} {t : Nat} {r : Nat} {z : Nat} {N : Nat} {ext : Nat → q_Sh} {rx : Nat → Nat → Option Nat} {L : Nat → Nat → Int64} {d : Nat} (hd : 5 ≤ d)  {I : Nat → Nat → Int32} {E : Nat → Nat → Option Nat} {x1 : Int32} {r0 : Int32 × (Nat → Int32)} (hf : f_X15_ropesOf (I 492) (I 499) (I 513) (I 517) x1 = some r0) : q_Ct g m_X15_ropesOf d 0 0 [] [.ref 492, .int x1] (q_hp (t, r, 1, z, N, ext, rx, L) I E) (fun o h' => o = .inl (some (.int r0.1)) ∧ h' = q_hp (t, r, 1, z, N, ext, rx, L) (q_ws I [(492, r0.2)]) (q_ws E [])) := by
  rw [f_X15_ropesOf] at hf
  refine q_Ct_of ok_X15_ropesOf (Nat.le_of_ble_eq_true rfl) ?_ _ rfl rfl
  change q_J g m_X15_ropesOf d 0 0 _ [] _ 0 0 (q_kc (t, r, 1, z, N, ext, rx, L) I E 0 [some (.ref 492), some (.int x1)] [] [] [])
  refine q_blk 5 [] (c' := q_kc (t, r, 1, z, N, ext, rx, L) I E 5 [some (.ref 492), some (.int x1)] [.ref 517, .int x1, .ref 492] [] []) ok_X15_ropesOf rfl q_cn ?_
  obtain ⟨r1, hr1, hf⟩ := q_bd hf
  refine q_kV (M2 := m_X15_of) (As := [.int x1, .ref 517]) (b := 492) (v2 := some (.int r1.1)) ok_X15_ropesOf ok_X15_of cv_X15_of (ct_X15_of_492_517 (d := 4) (Nat.le_refl _) hr1) rfl rfl (Or.inl rfl) rfl rfl rfl rfl (Nat.le_trans (Nat.le_of_ble_eq_true rfl) hd) (Nat.le_of_ble_eq_true rfl) (Nat.le_of_ble_eq_true rfl) (Nat.le_of_ble_eq_true rfl) (fun x hx => absurd hx List.not_mem_nil) (q_nmL0 _) (q_nmS0 _) rfl (pos' := 6) (st' := [.int r1.1]) (lI' := [(492, r1.2)]) (lE' := []) rfl rfl (q_mgw rfl rfl) rfl ?_
  cases hf
  exact q_kri ok_X15_ropesOf rfl rfl rfl (Nat.le_of_ble_eq_true rfl) (Nat.le_of_ble_eq_true rfl) ⟨rfl, q_hpe (q_pdw [492] rfl rfl) (q_pdw [] rfl rfl)⟩
set_option maxHeartbeats 4000000 in
theorem ct_X15_of_492_518 {g : q_G} {t : Nat} {r : Nat} {z : Nat} {N : Nat} {ext : Nat → q_Sh} {rx : Nat → Nat → Option Nat} {L : Nat → Nat → Int64} {d : Nat} (hd : 4 ≤ d)  {I : Nat → Nat → Int32} {E : Nat → Nat → Option Nat} {x1 : Int32} {r0 : Int32 × (Nat → Int32)} (hf : f_X15_of__4 (I 492) (I 499) (I 513) (I 518) x1 = some r0) : q_Ct g m_X15_of d 0 0 [] [.ref 492, .int x1, .ref 518] (q_hp (t, r, 1, z, N, ext, rx, L) I E) (fun o h' => o = .inl (some (.int r0.1)) ∧ h' = q_hp (t, r, 1, z, N, ext, rx, L) (q_ws I [(492, r0.2)]) (q_ws E [])) := by
  rw [f_X15_of__4] at hf
  refine q_Ct_of ok_X15_of (Nat.le_of_ble_eq_true rfl) ?_ _ rfl rfl
  change q_J g m_X15_of d 0 0 _ [] _ 0 0 (q_kc (t, r, 1, z, N, ext, rx, L) I E 0 [some (.ref 492), some (.int x1), some (.ref 518), none] [] [] [])
  refine q_blk 2 [] (c' := q_kc (t, r, 1, z, N, ext, rx, L) I E 2 [some (.ref 492), some (.int x1), some (.ref 518), none] [.int x1, .ref 492] [] []) ok_X15_of rfl q_cn ?_
  obtain ⟨r1, hr1, hf⟩ := q_bd hf
  refine q_kV (M2 := m_X15_bale) (As := [.int x1]) (b := 492) (v2 := some (.int r1.1)) ok_X15_of ok_X15_bale cv_X15_bale (ct_X15_bale_492 (d := 3) (Nat.le_refl _) hr1) rfl rfl (Or.inl rfl) rfl rfl rfl rfl (Nat.le_trans (Nat.le_of_ble_eq_true rfl) hd) (Nat.le_of_ble_eq_true rfl) (Nat.le_of_ble_eq_true rfl) (Nat.le_of_ble_eq_true rfl) (fun x hx => absurd hx List.not_mem_nil) (q_nmL0 _) (q_nmS0 _) rfl (pos' := 3) (st' := [.int r1.1]) (lI' := [(492, r1.2)]) (lE' := []) rfl rfl (q_mgw rfl rfl) rfl ?_
  refine q_blf 3 [] (a := q_kc (t, r, 1, z, N, ext, rx, L) I E 9 [some (.ref 492), some (.int x1), some (.ref 518), some (.int r1.1)] [] [(492, r1.2)] []) (b := q_kc (t, r, 1, z, N, ext, rx, L) I E 7 [some (.ref 492), some (.int x1), some (.ref 518), some (.int r1.1)] [] [(492, r1.2)] []) (P := ¬ r1.1 = (-1 : Int32)) ok_X15_of rfl q_cn (fun h2 => ?_) (fun h2 => ?_)
  · have hf := q_ip h2 hf
    obtain ⟨j3, hj3, hf⟩ := q_bd hf
    refine q_blk 3 [j3] (c' := q_kc (t, r, 1, z, N, ext, rx, L) I E 12 [some (.ref 492), some (.int x1), some (.ref 518), some (.int r1.1)] [.int ((I 518) j3)] [(492, r1.2)] []) ok_X15_of rfl (q_cc hj3 q_cn) ?_
    cases hf
    exact q_kri ok_X15_of rfl rfl rfl (Nat.le_of_ble_eq_true rfl) (Nat.le_of_ble_eq_true rfl) ⟨rfl, q_hpe (q_pdw [492] rfl rfl) (q_pdw [] rfl rfl)⟩
  · have hf := q_in h2 hf
    refine q_blk 2 [] (c' := q_kc (t, r, 1, z, N, ext, rx, L) I E 12 [some (.ref 492), some (.int x1), some (.ref 518), some (.int r1.1)] [.int (0 : Int32)] [(492, r1.2)] []) ok_X15_of rfl q_cn ?_
    cases hf
    exact q_kri ok_X15_of rfl rfl rfl (Nat.le_of_ble_eq_true rfl) (Nat.le_of_ble_eq_true rfl) ⟨rfl, q_hpe (q_pdw [492] rfl rfl) (q_pdw [] rfl rfl)⟩
set_option maxHeartbeats 4000000 in
theorem ct_X15_ageOf_492 {g : q_G} {t : Nat} {r : Nat} {z : Nat} {N : Nat} {ext : Nat → q_Sh} {rx : Nat → Nat → Option Nat} {L : Nat → Nat → Int64} {d : Nat} (hd : 5 ≤ d)  {I : Nat → Nat → Int32} {E : Nat → Nat → Option Nat} {x1 : Int32} {r0 : Int32 × (Nat → Int32)} (hf : f_X15_ageOf (I 492) (I 499) (I 513) (I 518) x1 = some r0) : q_Ct g m_X15_ageOf d 0 0 [] [.ref 492, .int x1] (q_hp (t, r, 1, z, N, ext, rx, L) I E) (fun o h' => o = .inl (some (.int r0.1)) ∧ h' = q_hp (t, r, 1, z, N, ext, rx, L) (q_ws I [(492, r0.2)]) (q_ws E [])) := by
  rw [f_X15_ageOf] at hf
  refine q_Ct_of ok_X15_ageOf (Nat.le_of_ble_eq_true rfl) ?_ _ rfl rfl
  change q_J g m_X15_ageOf d 0 0 _ [] _ 0 0 (q_kc (t, r, 1, z, N, ext, rx, L) I E 0 [some (.ref 492), some (.int x1)] [] [] [])
  refine q_blk 5 [] (c' := q_kc (t, r, 1, z, N, ext, rx, L) I E 5 [some (.ref 492), some (.int x1)] [.ref 518, .int x1, .ref 492] [] []) ok_X15_ageOf rfl q_cn ?_
  obtain ⟨r1, hr1, hf⟩ := q_bd hf
  refine q_kV (M2 := m_X15_of) (As := [.int x1, .ref 518]) (b := 492) (v2 := some (.int r1.1)) ok_X15_ageOf ok_X15_of cv_X15_of (ct_X15_of_492_518 (d := 4) (Nat.le_refl _) hr1) rfl rfl (Or.inl rfl) rfl rfl rfl rfl (Nat.le_trans (Nat.le_of_ble_eq_true rfl) hd) (Nat.le_of_ble_eq_true rfl) (Nat.le_of_ble_eq_true rfl) (Nat.le_of_ble_eq_true rfl) (fun x hx => absurd hx List.not_mem_nil) (q_nmL0 _) (q_nmS0 _) rfl (pos' := 6) (st' := [.int r1.1]) (lI' := [(492, r1.2)]) (lE' := []) rfl rfl (q_mgw rfl rfl) rfl ?_
  cases hf
  exact q_kri ok_X15_ageOf rfl rfl rfl (Nat.le_of_ble_eq_true rfl) (Nat.le_of_ble_eq_true rfl) ⟨rfl, q_hpe (q_pdw [492] rfl rfl) (q_pdw [] rfl rfl)⟩
set_option maxHeartbeats 4000000 in
theorem ct_X15_of_492_514 {g : q_G} {t : Nat} {r : Nat} {z : Nat} {N : Nat} {ext : Nat → q_Sh} {rx : Nat → Nat → Option Nat} {L : Nat → Nat → Int64} {d : Nat} (hd : 4 ≤ d)  {I : Nat → Nat → Int32} {E : Nat → Nat → Option Nat} {x1 : Int32} {r0 : Int32 × (Nat → Int32)} (hf : f_X15_of__5 (I 492) (I 499) (I 513) (I 514) x1 = some r0) : q_Ct g m_X15_of d 0 0 [] [.ref 492, .int x1, .ref 514] (q_hp (t, r, 1, z, N, ext, rx, L) I E) (fun o h' => o = .inl (some (.int r0.1)) ∧ h' = q_hp (t, r, 1, z, N, ext, rx, L) (q_ws I [(492, r0.2)]) (q_ws E [])) := by
  rw [f_X15_of__5] at hf
  refine q_Ct_of ok_X15_of (Nat.le_of_ble_eq_true rfl) ?_ _ rfl rfl
  change q_J g m_X15_of d 0 0 _ [] _ 0 0 (q_kc (t, r, 1, z, N, ext, rx, L) I E 0 [some (.ref 492), some (.int x1), some (.ref 514), none] [] [] [])
  refine q_blk 2 [] (c' := q_kc (t, r, 1, z, N, ext, rx, L) I E 2 [some (.ref 492), some (.int x1), some (.ref 514), none] [.int x1, .ref 492] [] []) ok_X15_of rfl q_cn ?_
  obtain ⟨r1, hr1, hf⟩ := q_bd hf
  refine q_kV (M2 := m_X15_bale) (As := [.int x1]) (b := 492) (v2 := some (.int r1.1)) ok_X15_of ok_X15_bale cv_X15_bale (ct_X15_bale_492 (d := 3) (Nat.le_refl _) hr1) rfl rfl (Or.inl rfl) rfl rfl rfl rfl (Nat.le_trans (Nat.le_of_ble_eq_true rfl) hd) (Nat.le_of_ble_eq_true rfl) (Nat.le_of_ble_eq_true rfl) (Nat.le_of_ble_eq_true rfl) (fun x hx => absurd hx List.not_mem_nil) (q_nmL0 _) (q_nmS0 _) rfl (pos' := 3) (st' := [.int r1.1]) (lI' := [(492, r1.2)]) (lE' := []) rfl rfl (q_mgw rfl rfl) rfl ?_
  refine q_blf 3 [] (a := q_kc (t, r, 1, z, N, ext, rx, L) I E 9 [some (.ref 492), some (.int x1), some (.ref 514), some (.int r1.1)] [] [(492, r1.2)] []) (b := q_kc (t, r, 1, z, N, ext, rx, L) I E 7 [some (.ref 492), some (.int x1), some (.ref 514), some (.int r1.1)] [] [(492, r1.2)] []) (P := ¬ r1.1 = (-1 : Int32)) ok_X15_of rfl q_cn (fun h2 => ?_) (fun h2 => ?_)
  · have hf := q_ip h2 hf
    obtain ⟨j3, hj3, hf⟩ := q_bd hf
    refine q_blk 3 [j3] (c' := q_kc (t, r, 1, z, N, ext, rx, L) I E 12 [some (.ref 492), some (.int x1), some (.ref 514), some (.int r1.1)] [.int ((I 514) j3)] [(492, r1.2)] []) ok_X15_of rfl (q_cc hj3 q_cn) ?_
    cases hf
    exact q_kri ok_X15_of rfl rfl rfl (Nat.le_of_ble_eq_true rfl) (Nat.le_of_ble_eq_true rfl) ⟨rfl, q_hpe (q_pdw [492] rfl rfl) (q_pdw [] rfl rfl)⟩
  · have hf := q_in h2 hf
    refine q_blk 2 [] (c' := q_kc (t, r, 1, z, N, ext, rx, L) I E 12 [some (.ref 492), some (.int x1), some (.ref 514), some (.int r1.1)] [.int (0 : Int32)] [(492, r1.2)] []) ok_X15_of rfl q_cn ?_
    cases hf
    exact q_kri ok_X15_of rfl rfl rfl (Nat.le_of_ble_eq_true rfl) (Nat.le_of_ble_eq_true rfl) ⟨rfl, q_hpe (q_pdw [492] rfl rfl) (q_pdw [] rfl rfl)⟩
set_option maxHeartbeats 4000000 in
theorem ct_X15_isInLoft_492 {g : q_G} {t : Nat} {r : Nat} {z : Nat} {N : Nat} {ext : Nat → q_Sh} {rx : Nat → Nat → Option Nat} {L : Nat → Nat → Int64} {d : Nat} (hd : 5 ≤ d)  {I : Nat → Nat → Int32} {E : Nat → Nat → Option Nat} {x1 : Int32} {r0 : Bool × (Nat → Int32)} (hf : f_X15_isInLoft (I 492) (I 499) (I 513) (I 514) x1 = some r0) : q_Ct g m_X15_isInLoft d 0 0 [] [.ref 492, .int x1] (q_hp (t, r, 1, z, N, ext, rx, L) I E) (fun o h' => o = .inl (some (.int (q_bz r0.1))) ∧ h' = q_hp (t, r, 1, z, N, ext, rx, L) (q_ws I [(492, r0.2)]) (q_ws E [])) := by
  rw [f_X15_isInLoft] at hf
  refine q_Ct_of ok_X15_isInLoft (Nat.le_of_ble_eq_true rfl) ?_ _ rfl rfl
  change q_J g m_X15_isInLoft d 0 0 _ [] _ 0 0 (q_kc (t, r, 1, z, N, ext, rx, L) I E 0 [some (.ref 492), some (.int x1)] [] [] [])
  refine q_blk 5 [] (c' := q_kc (t, r, 1, z, N, ext, rx, L) I E 5 [some (.ref 492), some (.int x1)] [.ref 514, .int x1, .ref 492] [] []) ok_X15_isInLoft rfl q_cn ?_
  obtain ⟨r1, hr1, hf⟩ := q_bd hf
  refine q_kV (M2 := m_X15_of) (As := [.int x1, .ref 514]) (b := 492) (v2 := some (.int r1.1)) ok_X15_isInLoft ok_X15_of cv_X15_of (ct_X15_of_492_514 (d := 4) (Nat.le_refl _) hr1) rfl rfl (Or.inl rfl) rfl rfl rfl rfl (Nat.le_trans (Nat.le_of_ble_eq_true rfl) hd) (Nat.le_of_ble_eq_true rfl) (Nat.le_of_ble_eq_true rfl) (Nat.le_of_ble_eq_true rfl) (fun x hx => absurd hx List.not_mem_nil) (q_nmL0 _) (q_nmS0 _) rfl (pos' := 6) (st' := [.int r1.1]) (lI' := [(492, r1.2)]) (lE' := []) rfl rfl (q_mgw rfl rfl) rfl ?_
  refine q_blf 1 [] (a := q_kc (t, r, 1, z, N, ext, rx, L) I E 10 [some (.ref 492), some (.int x1)] [] [(492, r1.2)] []) (b := q_kc (t, r, 1, z, N, ext, rx, L) I E 8 [some (.ref 492), some (.int x1)] [] [(492, r1.2)] []) (P := ¬ r1.1 = (2 : Int32)) ok_X15_isInLoft rfl q_cn (fun h2 => ?_) (fun h2 => ?_)
  · have hf := q_ip h2 hf
    refine q_blk 1 [] (c' := q_kc (t, r, 1, z, N, ext, rx, L) I E 11 [some (.ref 492), some (.int x1)] [.int (0 : Int32)] [(492, r1.2)] []) ok_X15_isInLoft rfl q_cn ?_
    cases hf
    exact q_kri ok_X15_isInLoft rfl rfl rfl (Nat.le_of_ble_eq_true rfl) (Nat.le_of_ble_eq_true rfl) ⟨rfl, q_hpe (q_pdw [492] rfl rfl) (q_pdw [] rfl rfl)⟩
  · have hf := q_in h2 hf
    refine q_blk 2 [] (c' := q_kc (t, r, 1, z, N, ext, rx, L) I E 11 [some (.ref 492), some (.int x1)] [.int (1 : Int32)] [(492, r1.2)] []) ok_X15_isInLoft rfl q_cn ?_
    cases hf
    exact q_kri ok_X15_isInLoft rfl rfl rfl (Nat.le_of_ble_eq_true rfl) (Nat.le_of_ble_eq_true rfl) ⟨rfl, q_hpe (q_pdw [492] rfl rfl) (q_pdw [] rfl rfl)⟩
set_option maxHeartbeats 4000000 in
theorem ct_X14_hasRope_512 {g : q_G} {t : Nat} {r : Nat} {m : Nat} {z : Nat} {N : Nat} {ext : Nat → q_Sh} {rx : Nat → Nat → Option Nat} {L : Nat → Nat → Int64} {d : Nat} (hd : 2 ≤ d)  {I : Nat → Nat → Int32} {E : Nat → Nat → Option Nat} {x1 : Int32} {x2 : Int32} {r0 : Bool} (hf : f_X14_hasRope (I 513) (I 517) x1 x2 = some r0) : q_Ct g m_X14_hasRope d 0 0 [] [.ref 512, .int x1, .int x2] (q_hp (t, r, m, z, N, ext, rx, L) I E) (fun o h' => o = .inl (some (.int (q_bz r0))) ∧ h' = q_hp (t, r, m, z, N, ext, rx, L) (q_ws I []) (q_ws E [])) := by
  rw [f_X14_hasRope] at hf
  refine q_Ct_of ok_X14_hasRope (Nat.le_of_ble_eq_true rfl) ?_ _ rfl rfl
  change q_J g m_X14_hasRope d 0 0 _ [] _ 0 0 (q_kc (t, r, m, z, N, ext, rx, L) I E 0 [some (.ref 512), some (.int x1), some (.int x2)] [] [] [])
  obtain ⟨j1, hj1, hf⟩ := q_bd hf
  refine q_blf 5 [j1] (a := q_kc (t, r, m, z, N, ext, rx, L) I E 21 [some (.ref 512), some (.int x1), some (.int x2)] [] [] []) (b := q_kc (t, r, m, z, N, ext, rx, L) I E 6 [some (.ref 512), some (.int x1), some (.int x2)] [] [] []) (P := ((I 513) j1) = (-1 : Int32)) ok_X14_hasRope rfl (q_cc hj1 q_cn) (fun h2 => ?_) (fun h2 => ?_)
  · have hf := q_ip h2 hf
    refine q_blk 1 [] (c' := q_kc (t, r, m, z, N, ext, rx, L) I E 22 [some (.ref 512), some (.int x1), some (.int x2)] [.int (0 : Int32)] [] []) ok_X14_hasRope rfl q_cn ?_
    cases hf
    exact q_kri ok_X14_hasRope rfl rfl rfl (Nat.le_of_ble_eq_true rfl) (Nat.le_of_ble_eq_true rfl) ⟨rfl, q_hpe (q_pdw [] rfl rfl) (q_pdw [] rfl rfl)⟩
  · have hf := q_in h2 hf
    obtain ⟨j3, hj3, hf⟩ := q_bd hf
    obtain ⟨j4, hj4, hf⟩ := q_bd hf
    refine q_blk 11 [j3, j4] (c' := q_kc (t, r, m, z, N, ext, rx, L) I E 17 [some (.ref 512), some (.int x1), some (.int x2)] [.int (((I 517) j4) - (1 : Int32)), .int (0 : Int32), .int x2] [] []) ok_X14_hasRope rfl (q_cc hj4 (q_cc hj3 q_cn)) ?_
    obtain ⟨r5, hr5, hf⟩ := q_bd hf
    refine q_kS (M2 := m_X15_isIn) (As := [.int x2, .int (0 : Int32), .int (((I 517) j4) - (1 : Int32))]) (v2 := some (.int (q_bz r5))) ok_X14_hasRope ok_X15_isIn cs_X15_isIn (ct_X15_isIn (d := 1) (Nat.le_refl _) hr5) rfl rfl (Or.inr ⟨_, rfl⟩) (Nat.le_trans (Nat.le_of_ble_eq_true rfl) hd) (Nat.le_of_ble_eq_true rfl) (Nat.le_of_ble_eq_true rfl) (Nat.le_of_ble_eq_true rfl) (fun x hx => absurd hx List.not_mem_nil) (q_nmL0 _) (q_nmS0 _) rfl (pos' := 18) (st' := [.int (q_bz r5)]) (lI' := []) (lE' := []) rfl rfl rfl rfl ?_
    refine q_blf 0 [] (a := q_kc (t, r, m, z, N, ext, rx, L) I E 21 [some (.ref 512), some (.int x1), some (.int x2)] [] [] []) (b := q_kc (t, r, m, z, N, ext, rx, L) I E 19 [some (.ref 512), some (.int x1), some (.int x2)] [] [] []) (P := (q_bz r5) = 0) ok_X14_hasRope rfl q_cn (fun h6 => ?_) (fun h6 => ?_)
    · have hf := q_ip h6 hf
      refine q_blk 1 [] (c' := q_kc (t, r, m, z, N, ext, rx, L) I E 22 [some (.ref 512), some (.int x1), some (.int x2)] [.int (0 : Int32)] [] []) ok_X14_hasRope rfl q_cn ?_
      cases hf
      exact q_kri ok_X14_hasRope rfl rfl rfl (Nat.le_of_ble_eq_true rfl) (Nat.le_of_ble_eq_true rfl) ⟨rfl, q_hpe (q_pdw [] rfl rfl) (q_pdw [] rfl rfl)⟩
    · have hf := q_in h6 hf
      refine q_blk 2 [] (c' := q_kc (t, r, m, z, N, ext, rx, L) I E 22 [some (.ref 512), some (.int x1), some (.int x2)] [.int (1 : Int32)] [] []) ok_X14_hasRope rfl q_cn ?_
      cases hf
      exact q_kri ok_X14_hasRope rfl rfl rfl (Nat.le_of_ble_eq_true rfl) (Nat.le_of_ble_eq_true rfl) ⟨rfl, q_hpe (q_pdw [] rfl rfl) (q_pdw [] rfl rfl)⟩
set_option maxHeartbeats 4000000 in
theorem ct_X14_leadsTo_512 {g : q_G} {t : Nat} {r : Nat} {m : Nat} {z : Nat} {N : Nat} {ext : Nat → q_Sh} {rx : Nat → Nat → Option Nat} {L : Nat → Nat → Int64} {d : Nat} (hd : 1 ≤ d)  {I : Nat → Nat → Int32} {E : Nat → Nat → Option Nat} {x1 : Int32} {x2 : Int32} {r0 : Int32} (hf : f_X14_leadsTo (I 513) (I 519) x1 x2 = some r0) : q_Ct g m_X14_leadsTo d 0 0 [] [.ref 512, .int x1, .int x2] (q_hp (t, r, m, z, N, ext, rx, L) I E) (fun o h' => o = .inl (some (.int r0)) ∧ h' = q_hp (t, r, m, z, N, ext, rx, L) (q_ws I []) (q_ws E [])) := by
  rw [f_X14_leadsTo] at hf
  refine q_Ct_of ok_X14_leadsTo (Nat.le_of_ble_eq_true rfl) ?_ _ rfl rfl
  change q_J g m_X14_leadsTo d 0 0 _ [] _ 0 0 (q_kc (t, r, m, z, N, ext, rx, L) I E 0 [some (.ref 512), some (.int x1), some (.int x2)] [] [] [])
  obtain ⟨j1, hj1, hf⟩ := q_bd hf
  obtain ⟨j2, hj2, hf⟩ := q_bd hf
  refine q_blk 11 [j1, j2] (c' := q_kc (t, r, m, z, N, ext, rx, L) I E 11 [some (.ref 512), some (.int x1), some (.int x2)] [.int ((I 519) j2)] [] []) ok_X14_leadsTo rfl (q_cc hj2 (q_cc hj1 q_cn)) ?_
  cases hf
  exact q_kri ok_X14_leadsTo rfl rfl rfl (Nat.le_of_ble_eq_true rfl) (Nat.le_of_ble_eq_true rfl) ⟨rfl, q_hpe (q_pdw [] rfl rfl) (q_pdw [] rfl rfl)⟩
set_option maxHeartbeats 4000000 in
theorem ct_X15_ropeLeads_492 {g : q_G} {t : Nat} {r : Nat} {z : Nat} {N : Nat} {ext : Nat → q_Sh} {rx : Nat → Nat → Option Nat} {L : Nat → Nat → Int64} {d : Nat} (hd : 4 ≤ d)  {I : Nat → Nat → Int32} {E : Nat → Nat → Option Nat} {x1 : Int32} {x2 : Int32} {r0 : Bool × (Nat → Int32)} (hf : f_X15_ropeLeads (I 492) (I 499) (I 513) (I 517) (I 519) x1 x2 = some r0) : q_Ct g m_X15_ropeLeads d 0 0 [] [.ref 492, .int x1, .int x2] (q_hp (t, r, 1, z, N, ext, rx, L) I E) (fun o h' => o = .inl (some (.int (q_bz r0.1))) ∧ h' = q_hp (t, r, 1, z, N, ext, rx, L) (q_ws I [(492, r0.2)]) (q_ws E [])) := by
  rw [f_X15_ropeLeads] at hf
  refine q_Ct_of ok_X15_ropeLeads (Nat.le_of_ble_eq_true rfl) ?_ _ rfl rfl
  change q_J g m_X15_ropeLeads d 0 0 _ [] _ 0 0 (q_kc (t, r, 1, z, N, ext, rx, L) I E 0 [some (.ref 492), some (.int x1), some (.int x2)] [] [] [])
  refine q_blk 2 [] (c' := q_kc (t, r, 1, z, N, ext, rx, L) I E 2 [some (.ref 492), some (.int x1), some (.int x2)] [.int x1, .ref 492] [] []) ok_X15_ropeLeads rfl q_cn ?_
  obtain ⟨r1, hr1, hf⟩ := q_bd hf
  refine q_kV (M2 := m_X15_bale) (As := [.int x1]) (b := 492) (v2 := some (.int r1.1)) ok_X15_ropeLeads ok_X15_bale cv_X15_bale (ct_X15_bale_492 (d := 3) (Nat.le_refl _) hr1) rfl rfl (Or.inl rfl) rfl rfl rfl rfl (Nat.le_trans (Nat.le_of_ble_eq_true rfl) hd) (Nat.le_of_ble_eq_true rfl) (Nat.le_of_ble_eq_true rfl) (Nat.le_of_ble_eq_true rfl) (fun x hx => absurd hx List.not_mem_nil) (q_nmL0 _) (q_nmS0 _) rfl (pos' := 3) (st' := [.int r1.1]) (lI' := [(492, r1.2)]) (lE' := []) rfl rfl (q_mgw rfl rfl) rfl ?_
  refine q_blf 1 [] (a := q_kc (t, r, 1, z, N, ext, rx, L) I E 7 [some (.ref 492), some (.int x1), some (.int x2)] [] [(492, r1.2)] []) (b := q_kc (t, r, 1, z, N, ext, rx, L) I E 5 [some (.ref 492), some (.int x1), some (.int x2)] [] [(492, r1.2)] []) (P := ¬ r1.1 = (-1 : Int32)) ok_X15_ropeLeads rfl q_cn (fun h2 => ?_) (fun h2 => ?_)
  · have hf := q_ip h2 hf
    refine q_blk 4 [] (c' := q_kc (t, r, 1, z, N, ext, rx, L) I E 11 [some (.ref 492), some (.int x1), some (.int x2)] [.int x2, .int x1, .ref 512] [(492, r1.2)] []) ok_X15_ropeLeads rfl q_cn ?_
    obtain ⟨r3, hr3, hf⟩ := q_bd hf
    refine q_kV (M2 := m_X14_hasRope) (As := [.int x1, .int x2]) (b := 512) (v2 := some (.int (q_bz r3))) ok_X15_ropeLeads ok_X14_hasRope cv_X14_hasRope (ct_X14_hasRope_512 (d := 2) (Nat.le_refl _) hr3) rfl rfl (Or.inl rfl) rfl rfl rfl rfl (Nat.le_trans (Nat.le_of_ble_eq_true rfl) hd) (Nat.le_of_ble_eq_true rfl) (Nat.le_of_ble_eq_true rfl) (Nat.le_of_ble_eq_true rfl) (fun x hx => absurd hx List.not_mem_nil) (q_nmL0 _) (q_nmS0 _) rfl (pos' := 12) (st' := [.int (q_bz r3)]) (lI' := [(492, r1.2)]) (lE' := []) rfl rfl rfl rfl ?_
    refine q_blf 0 [] (a := q_kc (t, r, 1, z, N, ext, rx, L) I E 24 [some (.ref 492), some (.int x1), some (.int x2)] [] [(492, r1.2)] []) (b := q_kc (t, r, 1, z, N, ext, rx, L) I E 13 [some (.ref 492), some (.int x1), some (.int x2)] [] [(492, r1.2)] []) (P := (q_bz r3) = 0) ok_X15_ropeLeads rfl q_cn (fun h4 => ?_) (fun h4 => ?_)
    · have hf := q_ip h4 hf
      refine q_blk 2 [] (c' := q_kc (t, r, 1, z, N, ext, rx, L) I E 26 [some (.ref 492), some (.int x1), some (.int x2)] [.int (2 : Int32), .ref 492] [(492, r1.2)] []) ok_X15_ropeLeads rfl q_cn ?_
      obtain ⟨r5, hr5, hf⟩ := q_bd hf
      refine q_kV (M2 := m_X15_isNot) (As := [.int (2 : Int32)]) (b := 492) (v2 := some (.int (q_bz r5.1))) ok_X15_ropeLeads ok_X15_isNot cv_X15_isNot (ct_X15_isNot_492 (d := 1) (Nat.le_refl _) hr5) rfl rfl (Or.inl rfl) rfl rfl rfl rfl (Nat.le_trans (Nat.le_of_ble_eq_true rfl) hd) (Nat.le_of_ble_eq_true rfl) (Nat.le_of_ble_eq_true rfl) (Nat.le_of_ble_eq_true rfl) (fun x hx => absurd hx List.not_mem_nil) (q_nmL0 _) (q_nmS0 _) rfl (pos' := 27) (st' := [.int (q_bz r5.1)]) (lI' := [(492, r5.2)]) (lE' := []) rfl rfl (q_mgw rfl rfl) rfl ?_
      cases hf
      exact q_kri ok_X15_ropeLeads rfl rfl (q_bz_nr _) (Nat.le_of_ble_eq_true rfl) (Nat.le_of_ble_eq_true rfl) ⟨rfl, q_hpe (q_pdw [492] rfl rfl) (q_pdw [] rfl rfl)⟩
    · have hf := q_in h4 hf
      refine q_blk 4 [] (c' := q_kc (t, r, 1, z, N, ext, rx, L) I E 17 [some (.ref 492), some (.int x1), some (.int x2)] [.int x2, .int x1, .ref 512] [(492, r1.2)] []) ok_X15_ropeLeads rfl q_cn ?_
      obtain ⟨r6, hr6, hf⟩ := q_bd hf
      refine q_kV (M2 := m_X14_leadsTo) (As := [.int x1, .int x2]) (b := 512) (v2 := some (.int r6)) ok_X15_ropeLeads ok_X14_leadsTo cv_X14_leadsTo (ct_X14_leadsTo_512 (d := 1) (Nat.le_refl _) hr6) rfl rfl (Or.inl rfl) rfl rfl rfl rfl (Nat.le_trans (Nat.le_of_ble_eq_true rfl) hd) (Nat.le_of_ble_eq_true rfl) (Nat.le_of_ble_eq_true rfl) (Nat.le_of_ble_eq_true rfl) (fun x hx => absurd hx List.not_mem_nil) (q_nmL0 _) (q_nmS0 _) rfl (pos' := 18) (st' := [.int r6]) (lI' := [(492, r1.2)]) (lE' := []) rfl rfl rfl rfl ?_
      refine q_blf 1 [] (a := q_kc (t, r, 1, z, N, ext, rx, L) I E 22 [some (.ref 492), some (.int x1), some (.int x2)] [] [(492, r1.2)] []) (b := q_kc (t, r, 1, z, N, ext, rx, L) I E 20 [some (.ref 492), some (.int x1), some (.int x2)] [] [(492, r1.2)] []) (P := r6 = (-1 : Int32)) ok_X15_ropeLeads rfl q_cn (fun h7 => ?_) (fun h7 => ?_)
      · have hf := q_ip h7 hf
        refine q_blk 2 [] (c' := q_kc (t, r, 1, z, N, ext, rx, L) I E 27 [some (.ref 492), some (.int x1), some (.int x2)] [.int (0 : Int32)] [(492, r1.2)] []) ok_X15_ropeLeads rfl q_cn ?_
        cases hf
        exact q_kri ok_X15_ropeLeads rfl rfl rfl (Nat.le_of_ble_eq_true rfl) (Nat.le_of_ble_eq_true rfl) ⟨rfl, q_hpe (q_pdw [492] rfl rfl) (q_pdw [] rfl rfl)⟩
      · have hf := q_in h7 hf
        refine q_blk 2 [] (c' := q_kc (t, r, 1, z, N, ext, rx, L) I E 27 [some (.ref 492), some (.int x1), some (.int x2)] [.int (1 : Int32)] [(492, r1.2)] []) ok_X15_ropeLeads rfl q_cn ?_
        cases hf
        exact q_kri ok_X15_ropeLeads rfl rfl rfl (Nat.le_of_ble_eq_true rfl) (Nat.le_of_ble_eq_true rfl) ⟨rfl, q_hpe (q_pdw [492] rfl rfl) (q_pdw [] rfl rfl)⟩
  · have hf := q_in h2 hf
    refine q_blk 1 [] (c' := q_kc (t, r, 1, z, N, ext, rx, L) I E 6 [some (.ref 492), some (.int x1), some (.int x2)] [.int (0 : Int32)] [(492, r1.2)] []) ok_X15_ropeLeads rfl q_cn ?_
    cases hf
    exact q_kri ok_X15_ropeLeads rfl rfl rfl (Nat.le_of_ble_eq_true rfl) (Nat.le_of_ble_eq_true rfl) ⟨rfl, q_hpe (q_pdw [492] rfl rfl) (q_pdw [] rfl rfl)⟩
set_option maxHeartbeats 4000000 in
theorem ct_X15_holdSame_492 {g : q_G} {t : Nat} {r : Nat} {z : Nat} {N : Nat} {ext : Nat → q_Sh} {rx : Nat → Nat → Option Nat} {L : Nat → Nat → Int64} {d : Nat} (hd : 3 ≤ d)  {I : Nat → Nat → Int32} {E : Nat → Nat → Option Nat} {x1 : Int32} {x2 : Int32} {r0 : Bool × (Nat → Int32)} (hf : f_X15_holdSame (I 492) (I 499) (I 513) x1 x2 = some r0) : q_Ct g m_X15_holdSame d 0 0 [] [.ref 492, .int x1, .int x2] (q_hp (t, r, 1, z, N, ext, rx, L) I E) (fun o h' => o = .inl (some (.int (q_bz r0.1))) ∧ h' = q_hp (t, r, 1, z, N, ext, rx, L) (q_ws I [(492, r0.2)]) (q_ws E [])) := by
  rw [f_X15_holdSame] at hf
  refine q_Ct_of ok_X15_holdSame (Nat.le_of_ble_eq_true rfl) ?_ _ rfl rfl
  change q_J g m_X15_holdSame d 0 0 _ [] _ 0 0 (q_kc (t, r, 1, z, N, ext, rx, L) I E 0 [some (.ref 492), some (.int x1), some (.int x2)] [] [] [])
  refine q_blk 5 [] (c' := q_kc (t, r, 1, z, N, ext, rx, L) I E 5 [some (.ref 492), some (.int x1), some (.int x2)] [.int x1, .ref 492] [(492, (q_up (I 492) 0 (0 : Int32)))] []) ok_X15_holdSame rfl q_cn ?_
  obtain ⟨r1, hr1, hf⟩ := q_bd hf
  refine q_kV (M2 := m_X15_isHook) (As := [.int x1]) (b := 492) (v2 := some (.int (q_bz r1))) ok_X15_holdSame ok_X15_isHook cv_X15_isHook (ct_X15_isHook_492 (d := 2) (Nat.le_refl _) hr1) rfl rfl (Or.inl rfl) rfl rfl rfl rfl (Nat.le_trans (Nat.le_of_ble_eq_true rfl) hd) (Nat.le_of_ble_eq_true rfl) (Nat.le_of_ble_eq_true rfl) (Nat.le_of_ble_eq_true rfl) (fun x hx => absurd hx List.not_mem_nil) (q_nmL0 _) (q_nmS0 _) rfl (pos' := 6) (st' := [.int (q_bz r1)]) (lI' := [(492, (q_up (I 492) 0 (0 : Int32)))]) (lE' := []) rfl rfl rfl rfl ?_
  refine q_blf 0 [] (a := q_kc (t, r, 1, z, N, ext, rx, L) I E 33 [some (.ref 492), some (.int x1), some (.int x2)] [] [(492, (q_up (I 492) 0 (0 : Int32)))] []) (b := q_kc (t, r, 1, z, N, ext, rx, L) I E 7 [some (.ref 492), some (.int x1), some (.int x2)] [] [(492, (q_up (I 492) 0 (0 : Int32)))] []) (P := (q_bz r1) = 0) ok_X15_holdSame rfl q_cn (fun h2 => ?_) (fun h2 => ?_)
  · have hf := q_ip h2 hf
    refine q_blk 2 [] (c' := q_kc (t, r, 1, z, N, ext, rx, L) I E 35 [some (.ref 492), some (.int x1), some (.int x2)] [.int (1 : Int32), .ref 492] [(492, (q_up (I 492) 0 (0 : Int32)))] []) ok_X15_holdSame rfl q_cn ?_
    obtain ⟨r3, hr3, hf⟩ := q_bd hf
    refine q_kV (M2 := m_X15_isNot) (As := [.int (1 : Int32)]) (b := 492) (v2 := some (.int (q_bz r3.1))) ok_X15_holdSame ok_X15_isNot cv_X15_isNot (ct_X15_isNot_492 (d := 1) (Nat.le_refl _) hr3) rfl rfl (Or.inl rfl) rfl rfl rfl rfl (Nat.le_trans (Nat.le_of_ble_eq_true rfl) hd) (Nat.le_of_ble_eq_true rfl) (Nat.le_of_ble_eq_true rfl) (Nat.le_of_ble_eq_true rfl) (fun x hx => absurd hx List.not_mem_nil) (q_nmL0 _) (q_nmS0 _) rfl (pos' := 36) (st' := [.int (q_bz r3.1)]) (lI' := [(492, r3.2)]) (lE' := []) rfl rfl (q_mgw rfl rfl) rfl ?_
    cases hf
    exact q_kri ok_X15_holdSame rfl rfl (q_bz_nr _) (Nat.le_of_ble_eq_true rfl) (Nat.le_of_ble_eq_true rfl) ⟨rfl, q_hpe (q_pdw [492] rfl rfl) (q_pdw [] rfl rfl)⟩
  · have hf := q_in h2 hf
    refine q_blk 2 [] (c' := q_kc (t, r, 1, z, N, ext, rx, L) I E 9 [some (.ref 492), some (.int x1), some (.int x2)] [.int x2, .ref 492] [(492, (q_up (I 492) 0 (0 : Int32)))] []) ok_X15_holdSame rfl q_cn ?_
    obtain ⟨r4, hr4, hf⟩ := q_bd hf
    refine q_kV (M2 := m_X15_isHook) (As := [.int x2]) (b := 492) (v2 := some (.int (q_bz r4))) ok_X15_holdSame ok_X15_isHook cv_X15_isHook (ct_X15_isHook_492 (d := 2) (Nat.le_refl _) hr4) rfl rfl (Or.inl rfl) rfl rfl rfl rfl (Nat.le_trans (Nat.le_of_ble_eq_true rfl) hd) (Nat.le_of_ble_eq_true rfl) (Nat.le_of_ble_eq_true rfl) (Nat.le_of_ble_eq_true rfl) (fun x hx => absurd hx List.not_mem_nil) (q_nmL0 _) (q_nmS0 _) rfl (pos' := 10) (st' := [.int (q_bz r4)]) (lI' := [(492, (q_up (I 492) 0 (0 : Int32)))]) (lE' := []) rfl rfl rfl rfl ?_
    refine q_blf 0 [] (a := q_kc (t, r, 1, z, N, ext, rx, L) I E 33 [some (.ref 492), some (.int x1), some (.int x2)] [] [(492, (q_up (I 492) 0 (0 : Int32)))] []) (b := q_kc (t, r, 1, z, N, ext, rx, L) I E 11 [some (.ref 492), some (.int x1), some (.int x2)] [] [(492, (q_up (I 492) 0 (0 : Int32)))] []) (P := (q_bz r4) = 0) ok_X15_holdSame rfl q_cn (fun h5 => ?_) (fun h5 => ?_)
    · have hf := q_ip h5 hf
      refine q_blk 2 [] (c' := q_kc (t, r, 1, z, N, ext, rx, L) I E 35 [some (.ref 492), some (.int x1), some (.int x2)] [.int (1 : Int32), .ref 492] [(492, (q_up (I 492) 0 (0 : Int32)))] []) ok_X15_holdSame rfl q_cn ?_
      obtain ⟨r6, hr6, hf⟩ := q_bd hf
      refine q_kV (M2 := m_X15_isNot) (As := [.int (1 : Int32)]) (b := 492) (v2 := some (.int (q_bz r6.1))) ok_X15_holdSame ok_X15_isNot cv_X15_isNot (ct_X15_isNot_492 (d := 1) (Nat.le_refl _) hr6) rfl rfl (Or.inl rfl) rfl rfl rfl rfl (Nat.le_trans (Nat.le_of_ble_eq_true rfl) hd) (Nat.le_of_ble_eq_true rfl) (Nat.le_of_ble_eq_true rfl) (Nat.le_of_ble_eq_true rfl) (fun x hx => absurd hx List.not_mem_nil) (q_nmL0 _) (q_nmS0 _) rfl (pos' := 36) (st' := [.int (q_bz r6.1)]) (lI' := [(492, r6.2)]) (lE' := []) rfl rfl (q_mgw rfl rfl) rfl ?_
      cases hf
      exact q_kri ok_X15_holdSame rfl rfl (q_bz_nr _) (Nat.le_of_ble_eq_true rfl) (Nat.le_of_ble_eq_true rfl) ⟨rfl, q_hpe (q_pdw [492] rfl rfl) (q_pdw [] rfl rfl)⟩
    · have hf := q_in h5 hf
      obtain ⟨j7, hj7, hf⟩ := q_bd hf
      refine q_blf 6 [j7] (a := q_kc (t, r, 1, z, N, ext, rx, L) I E 31 [some (.ref 492), some (.int x1), some (.int x2)] [] [(492, (q_up (I 492) 0 (0 : Int32)))] []) (b := q_kc (t, r, 1, z, N, ext, rx, L) I E 18 [some (.ref 492), some (.int x1), some (.int x2)] [] [(492, (q_up (I 492) 0 (0 : Int32)))] []) (P := ((I 513) j7) = (-1 : Int32)) ok_X15_holdSame rfl (q_cc hj7 q_cn) (fun h8 => ?_) (fun h8 => ?_)
      · have hf := q_ip h8 hf
        refine q_blk 2 [] (c' := q_kc (t, r, 1, z, N, ext, rx, L) I E 36 [some (.ref 492), some (.int x1), some (.int x2)] [.int (0 : Int32)] [(492, (q_up (I 492) 0 (0 : Int32)))] []) ok_X15_holdSame rfl q_cn ?_
        cases hf
        exact q_kri ok_X15_holdSame rfl rfl rfl (Nat.le_of_ble_eq_true rfl) (Nat.le_of_ble_eq_true rfl) ⟨rfl, q_hpe (q_pdw [492] rfl rfl) (q_pdw [] rfl rfl)⟩
      · have hf := q_in h8 hf
        obtain ⟨j9, hj9, hf⟩ := q_bd hf
        obtain ⟨j10, hj10, hf⟩ := q_bd hf
        refine q_blf 10 [j9, j10] (a := q_kc (t, r, 1, z, N, ext, rx, L) I E 31 [some (.ref 492), some (.int x1), some (.int x2)] [] [(492, (q_up (I 492) 0 (0 : Int32)))] []) (b := q_kc (t, r, 1, z, N, ext, rx, L) I E 29 [some (.ref 492), some (.int x1), some (.int x2)] [] [(492, (q_up (I 492) 0 (0 : Int32)))] []) (P := ¬ ((I 513) j9) = ((I 513) j10)) ok_X15_holdSame rfl (q_cc hj10 (q_cc hj9 q_cn)) (fun h11 => ?_) (fun h11 => ?_)
        · have hf := q_ip h11 hf
          refine q_blk 2 [] (c' := q_kc (t, r, 1, z, N, ext, rx, L) I E 36 [some (.ref 492), some (.int x1), some (.int x2)] [.int (0 : Int32)] [(492, (q_up (I 492) 0 (0 : Int32)))] []) ok_X15_holdSame rfl q_cn ?_
          cases hf
          exact q_kri ok_X15_holdSame rfl rfl rfl (Nat.le_of_ble_eq_true rfl) (Nat.le_of_ble_eq_true rfl) ⟨rfl, q_hpe (q_pdw [492] rfl rfl) (q_pdw [] rfl rfl)⟩
        · have hf := q_in h11 hf
          refine q_blk 2 [] (c' := q_kc (t, r, 1, z, N, ext, rx, L) I E 36 [some (.ref 492), some (.int x1), some (.int x2)] [.int (1 : Int32)] [(492, (q_up (I 492) 0 (0 : Int32)))] []) ok_X15_holdSame rfl q_cn ?_
          cases hf
          exact q_kri ok_X15_holdSame rfl rfl rfl (Nat.le_of_ble_eq_true rfl) (Nat.le_of_ble_eq_true rfl) ⟨rfl, q_hpe (q_pdw [492] rfl rfl) (q_pdw [] rfl rfl)⟩
