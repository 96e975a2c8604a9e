set_option maxHeartbeats 4000000 in
theorem lp_X7_read_L18_450_426 {g : q_G} {d mc ms : Nat} {h0 : q_H} {Q : (Option Value ⊕ String) → q_H → Prop} {k n : Nat} {t : Nat} {m : Nat} {z : Nat} {N : Nat} {ext : Nat → q_Sh} {rx : Nat → Nat → Option Nat} {L : Nat → Nat → Int64} (hd : 13 ≤ d) (hk : k ≤ mc) (hn : n ≤ ms)  : ∀ (fu : Nat) {I : Nat → Nat → Int32} {E : Nat → Nat → Option Nat} {T2 : Nat → Nat → Int32} {K2 : Nat → Nat → Option Nat} {v3 : Int32} {r0 : (Nat → Int32) × (Nat → Int32) × (Nat → Int32) × (Nat → Int32) × (Nat → Option Nat) × (Nat → Nat → Int32) × (Nat → Nat → Option Nat)} (hf : f_X7_read_L18 (I 452) (I 456) (E 453) fu (I 426) (I 429) (I 450) (I 451) (E 428) T2 K2 v3 = some r0) (hK0 : q_J g m_X7_read d mc ms h0 [] Q k n (q_kc (t, 0, m, z, N, ext, rx, L) (q_tW I 430 r0.2.2.2.2.2.1) (q_tW E 430 r0.2.2.2.2.2.2) 46 [some (.ref 450), none, none, none] [] [(426, r0.1), (429, r0.2.1), (450, r0.2.2.1), (451, r0.2.2.2.1)] [(428, r0.2.2.2.2.1)])), q_J g m_X7_read d mc ms h0 [] Q k n (18, [some (.ref 450), none, none, some (.int v3)], [], q_hp (t, 0, m, z, N, ext, rx, L) (q_tW I 430 T2) (q_tW E 430 K2)) := by
  intro fu
  induction fu with
  | zero =>
    intro I E T2 K2 v3 r0 hf hK0
    rw [f_X7_read_L18] at hf
    cases hf
  | succ fu ih =>
    intro I E T2 K2 v3 r0 hf hK0
    rw [f_X7_read_L18] at hf
    change q_J g m_X7_read d mc ms h0 [] Q k n (q_kc (t, 0, m, z, N, ext, rx, L) (q_tW I 430 T2) (q_tW E 430 K2) 18 [some (.ref 450), none, none, some (.int v3)] [] [] [])
    refine q_blf 2 [] (a := q_kc (t, 0, m, z, N, ext, rx, L) (q_tW I 430 T2) (q_tW E 430 K2) 46 [some (.ref 450), none, none, some (.int v3)] [] [] []) (b := q_kc (t, 0, m, z, N, ext, rx, L) (q_tW I 430 T2) (q_tW E 430 K2) 21 [some (.ref 450), none, none, some (.int v3)] [] [] []) (P := (400 : Int32) < v3) ok_X7_read rfl q_cn (fun h1 => ?_) (fun h1 => ?_)
    · have hf := q_ip h1 hf
      refine q_less (ls' := [some (.ref 450), none, none, none]) (q_sb2 (q_sb1 (q_sb1 (q_sb1 q_sb0)))) ?_
      cases hf
      exact q_Jpad [426, 429, 450, 451] [428] rfl rfl hK0
    · have hf := q_in h1 hf
      refine q_blk 1 [] (c' := q_kc (t, 0, m, z, N, ext, rx, L) (q_tW I 430 T2) (q_tW E 430 K2) 22 [some (.ref 450), none, none, some (.int v3)] [.ref 450] [] []) ok_X7_read rfl q_cn ?_
      obtain ⟨r2, hr2, hf⟩ := q_bd hf
      obtain ⟨u3, hu4, hf⟩ := q_bd hf
      refine q_kV (M2 := m_X7_sign) (As := []) (b := 450) (v2 := some (.ref r2)) ok_X7_read ok_X7_sign cv_X7_sign (ct_X7_sign_450 (d := 2) (Nat.le_refl _) hr2) rfl rfl (Or.inl rfl) rfl rfl rfl rfl (Nat.le_trans (Nat.le_of_ble_eq_true rfl) hd) hk hn (Nat.le_of_ble_eq_true rfl) (fun x hx => absurd hx List.not_mem_nil) (q_nmL0 _) (q_nmS0 _) rfl (pos' := 23) (st' := [.ref r2]) (lI' := []) (lE' := []) rfl rfl rfl rfl ?_
      refine q_blk 1 [] (c' := q_kc (t, 0, m, z, N, ext, rx, L) (q_tW I 430 T2) (q_tW E 430 K2) 24 [some (.ref 450), none, none, some (.int v3)] [.ref 0, .ref r2] [] []) ok_X7_read rfl q_cn ?_
      refine q_o_acmp_eq ok_X7_read rfl (q_e49_lt hu4) (Nat.lt_of_lt_of_le (Nat.lt_succ_self _) (Nat.le_of_ble_eq_true rfl)) (fun h5 => ?_) (fun h5 => ?_)
      · have hf := q_ip h5 hf
        refine q_less (ls' := [some (.ref 450), none, none, none]) (q_sb2 (q_sb1 (q_sb1 (q_sb1 q_sb0)))) ?_
        cases hf
        exact q_Jpad [426, 429, 450, 451] [428] rfl rfl hK0
      · have hf := q_in h5 hf
        refine q_blf 3 [] (a := q_kc (t, 0, m, z, N, ext, rx, L) (q_tW I 430 T2) (q_tW E 430 K2) 46 [some (.ref 450), none, none, some (.int v3)] [] [] []) (b := q_kc (t, 0, m, z, N, ext, rx, L) (q_tW I 430 T2) (q_tW E 430 K2) 29 [some (.ref 450), none, none, some (.int v3)] [] [] []) (P := ((I 450) 4) = (1 : Int32)) ok_X7_read rfl q_cn (fun h6 => ?_) (fun h6 => ?_)
        · have hf := q_ip h6 hf
          refine q_less (ls' := [some (.ref 450), none, none, none]) (q_sb2 (q_sb1 (q_sb1 (q_sb1 q_sb0)))) ?_
          cases hf
          exact q_Jpad [426, 429, 450, 451] [428] rfl rfl hK0
        · have hf := q_in h6 hf
          refine q_blk 1 [] (c' := q_kc (t, 0, m, z, N, ext, rx, L) (q_tW I 430 T2) (q_tW E 430 K2) 30 [some (.ref 450), none, none, some (.int v3)] [.ref 450] [] []) ok_X7_read rfl q_cn ?_
          obtain ⟨r7, hr7, hf⟩ := q_bd hf
          obtain ⟨u8, hu9, hf⟩ := q_bd hf
          refine q_kV (M2 := m_X7_sign) (As := []) (b := 450) (v2 := some (.ref r7)) ok_X7_read ok_X7_sign cv_X7_sign (ct_X7_sign_450 (d := 2) (Nat.le_refl _) hr7) rfl rfl (Or.inl rfl) rfl rfl rfl rfl (Nat.le_trans (Nat.le_of_ble_eq_true rfl) hd) hk hn (Nat.le_of_ble_eq_true rfl) (fun x hx => absurd hx List.not_mem_nil) (q_nmL0 _) (q_nmS0 _) rfl (pos' := 31) (st' := [.ref r7]) (lI' := []) (lE' := []) rfl rfl rfl rfl ?_
          obtain ⟨r10, hr10, hf⟩ := q_bd hf
          refine q_kS (M2 := m_X7_isStep) (As := [.ref r7]) (v2 := some (.int (q_bz r10))) ok_X7_read ok_X7_isStep cs_X7_isStep (ct_X7_isStep (d := 1) (Nat.le_refl _) hr10) rfl rfl (Or.inl rfl) (Nat.le_trans (Nat.le_of_ble_eq_true rfl) hd) hk hn (Nat.le_of_ble_eq_true rfl) (fun x hx => absurd hx List.not_mem_nil) (q_nmL0 _) (q_nmS0 _) rfl (pos' := 32) (st' := [.int (q_bz r10)]) (lI' := []) (lE' := []) rfl rfl rfl rfl ?_
          refine q_blf 0 [] (a := q_kc (t, 0, m, z, N, ext, rx, L) (q_tW I 430 T2) (q_tW E 430 K2) 38 [some (.ref 450), none, none, some (.int v3)] [] [] []) (b := q_kc (t, 0, m, z, N, ext, rx, L) (q_tW I 430 T2) (q_tW E 430 K2) 33 [some (.ref 450), none, none, some (.int v3)] [] [] []) (P := (q_bz r10) = 0) ok_X7_read rfl q_cn (fun h11 => ?_) (fun h11 => ?_)
          · have hf := q_ip h11 hf
            refine q_blk 1 [] (c' := q_kc (t, 0, m, z, N, ext, rx, L) (q_tW I 430 T2) (q_tW E 430 K2) 39 [some (.ref 450), none, none, some (.int v3)] [.ref 450] [] []) ok_X7_read rfl q_cn ?_
            obtain ⟨r12, hr12, hf⟩ := q_bd hf
            refine q_kV (M2 := m_X7_readSetting) (As := []) (b := 450) (v2 := none) ok_X7_read ok_X7_readSetting cv_X7_readSetting (ct_X7_readSetting_450 (d := 5) (Nat.le_refl _) hr12) rfl rfl (Or.inl rfl) rfl rfl rfl rfl (Nat.le_trans (Nat.le_of_ble_eq_true rfl) hd) hk hn (Nat.le_of_ble_eq_true rfl) (fun x hx => absurd hx List.not_mem_nil) (q_nmL0 _) (q_nmS0 _) rfl (pos' := 40) (st' := []) (lI' := [(426, r12.1), (450, r12.2.1), (451, r12.2.2)]) (lE' := []) rfl rfl rfl rfl ?_
            refine q_blk 2 [] (c' := q_kc (t, 0, m, z, N, ext, rx, L) (q_tW I 430 T2) (q_tW E 430 K2) 42 [some (.ref 450), none, none, some (.int v3)] [.ref 38, .ref 450] [(426, r12.1), (450, r12.2.1), (451, r12.2.2)] []) ok_X7_read rfl q_cn ?_
            obtain ⟨r13, hr13, hf⟩ := q_bd hf
            refine q_kV (M2 := m_X7_take) (As := [.ref 38]) (b := 450) (v2 := some (.int (q_bz r13.1))) ok_X7_read ok_X7_take cv_X7_take (ct_X7_take_450 (d := 3) (Nat.le_refl _) hr13) rfl rfl (Or.inl rfl) rfl rfl rfl rfl (Nat.le_trans (Nat.le_of_ble_eq_true rfl) hd) hk hn (Nat.le_of_ble_eq_true rfl) (fun x hx => absurd hx List.not_mem_nil) (q_nmL0 _) (q_nmS0 _) rfl (pos' := 43) (st' := [.int (q_bz r13.1)]) (lI' := [(426, r12.1), (450, r13.2), (451, r12.2.2)]) (lE' := []) rfl rfl rfl rfl ?_
            refine q_blk 3 [] (c' := q_kc (t, 0, m, z, N, ext, rx, L) (q_tW I 430 T2) (q_tW E 430 K2) 18 [some (.ref 450), none, none, some (.int (v3 + 1))] [] [(426, r12.1), (450, r13.2), (451, r12.2.2)] []) ok_X7_read rfl q_cn ?_
            refine q_JtW rfl rfl ?_
            exact ih (I := q_ws I [(426, r12.1), (450, r13.2), (451, r12.2.2)]) (E := q_ws E []) (T2 := T2) (K2 := K2) hf (q_JtWm rfl rfl rfl rfl hK0)
          · have hf := q_in h11 hf
            refine q_blk 2 [] (c' := q_kc (t, 0, m, z, N, ext, rx, L) (q_tW I 430 T2) (q_tW E 430 K2) 35 [some (.ref 450), none, none, some (.int v3)] [.ref 450, .ref 450] [] []) ok_X7_read rfl q_cn ?_
            obtain ⟨r14, hr14, hf⟩ := q_bd hf
            obtain ⟨u15, hu16, hf⟩ := q_bd hf
            refine q_kV (M2 := m_X7_sign) (As := []) (b := 450) (v2 := some (.ref r14)) ok_X7_read ok_X7_sign cv_X7_sign (ct_X7_sign_450 (d := 2) (Nat.le_refl _) hr14) rfl rfl (Or.inl rfl) rfl rfl rfl rfl (Nat.le_trans (Nat.le_of_ble_eq_true rfl) hd) hk hn (Nat.le_of_ble_eq_true rfl) (fun x hx => absurd hx List.not_mem_nil) (q_nmL0 _) (q_nmS0 _) rfl (pos' := 36) (st' := [.ref r14, .ref 450]) (lI' := []) (lE' := []) rfl rfl rfl rfl ?_
            obtain ⟨r17, hr17, hf⟩ := q_bd hf
            refine q_kVT (M2 := m_X7_readStep) (As := [.ref r14]) (b := 450) (v2 := none) ok_X7_read ok_X7_readStep cv_X7_readStep (ct_X7_readStep_450 (d := 11) (Nat.le_refl _) hr17) rfl rfl (Or.inl rfl) rfl rfl rfl rfl (Nat.le_trans (Nat.le_of_ble_eq_true rfl) hd) hk hn (Nat.le_of_ble_eq_true rfl) (fun x hx => absurd hx List.not_mem_nil) (q_nmL0 _) (q_nmS0 _) rfl (pos' := 37) (st' := []) (lI' := [(426, r17.1), (429, r17.2.1), (450, r17.2.2.1)]) (lE' := [(428, r17.2.2.2.1)]) rfl rfl rfl rfl rfl rfl ?_
            refine q_blk 3 [] (c' := q_kc (t, 0, m, z, N, ext, rx, L) (q_tW I 430 r17.2.2.2.2.1) (q_tW E 430 r17.2.2.2.2.2) 42 [some (.ref 450), none, none, some (.int v3)] [.ref 38, .ref 450] [(426, r17.1), (429, r17.2.1), (450, r17.2.2.1)] [(428, r17.2.2.2.1)]) ok_X7_read rfl q_cn ?_
            obtain ⟨r18, hr18, hf⟩ := q_bd hf
            refine q_kV (M2 := m_X7_take) (As := [.ref 38]) (b := 450) (v2 := some (.int (q_bz r18.1))) ok_X7_read ok_X7_take cv_X7_take (ct_X7_take_450 (d := 3) (Nat.le_refl _) hr18) rfl rfl (Or.inl rfl) rfl rfl rfl rfl (Nat.le_trans (Nat.le_of_ble_eq_true rfl) hd) hk hn (Nat.le_of_ble_eq_true rfl) (fun x hx => absurd hx List.not_mem_nil) (q_nmL0 _) (q_nmS0 _) rfl (pos' := 43) (st' := [.int (q_bz r18.1)]) (lI' := [(426, r17.1), (429, r17.2.1), (450, r18.2)]) (lE' := [(428, r17.2.2.2.1)]) rfl rfl rfl rfl ?_
            refine q_blk 3 [] (c' := q_kc (t, 0, m, z, N, ext, rx, L) (q_tW I 430 r17.2.2.2.2.1) (q_tW E 430 r17.2.2.2.2.2) 18 [some (.ref 450), none, none, some (.int (v3 + 1))] [] [(426, r17.1), (429, r17.2.1), (450, r18.2)] [(428, r17.2.2.2.1)]) ok_X7_read rfl q_cn ?_
            refine q_JtW rfl rfl ?_
            exact ih (I := q_ws I [(426, r17.1), (429, r17.2.1), (450, r18.2)]) (E := q_ws E [(428, r17.2.2.2.1)]) (T2 := r17.2.2.2.2.1) (K2 := r17.2.2.2.2.2) hf (q_JtWm rfl rfl rfl rfl hK0)
set_option maxHeartbeats 4000000 in
theorem ct_X7_read_450_426 {g : q_G} {t : Nat} {r : Nat} {m : Nat} {z : Nat} {N : Nat} {ext : Nat → q_Sh} {rx : Nat → Nat → Option Nat} {L : Nat → Nat → Int64} {d : Nat} (hd : 13 ≤ d)  {I : Nat → Nat → Int32} {E : Nat → Nat → Option Nat} {T2 : Nat → Nat → Int32} {K2 : Nat → Nat → Option Nat} {x1 : Int32} {r0 : Int32 × (Nat → Int32) × (Nat → Int32) × (Nat → Int32) × (Nat → Int32) × (Nat → Int32) × (Nat → Int32) × (Nat → Int32) × (Nat → Int32) × (Nat → Option Nat) × (Nat → Option Nat) × (Nat → Nat → Int32) × (Nat → Nat → Option Nat)} (hf : f_X7_read (I 401) (I 426) (I 429) (I 450) (I 451) (I 452) (I 454) (I 455) (I 456) (E 428) (E 453) T2 K2 x1 = some r0) : q_Ct g m_X7_read d 0 0 [] [.ref 450, .int x1, .ref 426] (q_hp (t, r, m, z, N, ext, rx, L) (q_tW I 430 T2) (q_tW E 430 K2)) (fun o h' => o = .inl (some (.int r0.1)) ∧ h' = q_hp (t, 0, m, z, N, ext, rx, L) (q_ws (q_tW I 430 r0.2.2.2.2.2.2.2.2.2.2.2.1) [(426, r0.2.1), (429, r0.2.2.1), (450, r0.2.2.2.1), (451, r0.2.2.2.2.1), (452, r0.2.2.2.2.2.1), (454, r0.2.2.2.2.2.2.1), (455, r0.2.2.2.2.2.2.2.1), (456, r0.2.2.2.2.2.2.2.2.1)]) (q_ws (q_tW E 430 r0.2.2.2.2.2.2.2.2.2.2.2.2) [(428, r0.2.2.2.2.2.2.2.2.2.1), (453, r0.2.2.2.2.2.2.2.2.2.2.1)])) := by
  rw [f_X7_read] at hf
  refine q_Ct_of ok_X7_read (Nat.le_of_ble_eq_true rfl) ?_ _ rfl rfl
  change q_J g m_X7_read d 0 0 _ [] _ 0 0 (q_kc (t, r, m, z, N, ext, rx, L) (q_tW I 430 T2) (q_tW E 430 K2) 0 [some (.ref 450), some (.int x1), some (.ref 426), none] [] [] [])
  refine q_blk 3 [] (c' := q_kc (t, r, m, z, N, ext, rx, L) (q_tW I 430 T2) (q_tW E 430 K2) 3 [some (.ref 450), some (.int x1), some (.ref 426), none] [.int x1, .ref 452] [] []) ok_X7_read rfl q_cn ?_
  obtain ⟨r19, hr19, hf⟩ := q_bd hf
  refine q_kV (M2 := m_X11_split) (As := [.int x1]) (b := 452) (v2 := none) ok_X7_read ok_X11_split cv_X11_split (ct_X11_split_452 (d := 12) (Nat.le_refl _) hr19) rfl rfl (Or.inl rfl) rfl rfl rfl rfl (Nat.le_trans (Nat.le_of_ble_eq_true rfl) hd) (Nat.le_of_ble_eq_true rfl) (Nat.le_of_ble_eq_true rfl) (Nat.le_of_ble_eq_true rfl) (fun x hx => absurd hx List.not_mem_nil) (q_nmL0 _) (q_nmS0 _) rfl (pos' := 4) (st' := []) (lI' := [(452, r19.1), (454, r19.2.1), (455, r19.2.2.1), (456, r19.2.2.2.1)]) (lE' := [(453, r19.2.2.2.2)]) rfl rfl rfl rfl ?_
  refine q_blk 2 [] (c' := q_kc (t, r, m, z, N, ext, rx, L) (q_tW I 430 T2) (q_tW E 430 K2) 6 [some (.ref 450), some (.int x1), some (.ref 426), none] [.ref 426, .ref 450] [(452, r19.1), (454, r19.2.1), (455, r19.2.2.1), (456, r19.2.2.2.1)] [(453, r19.2.2.2.2)]) ok_X7_read rfl q_cn ?_
  refine q_kp9 (pos' := 7) (X2 := (t, 0, m, z, N, ext, rx, L)) ok_X7_read rfl rfl rfl rfl (q_oth_of (by decide +kernel)) (q_shX_r _ _ _ _) (q_u2_id rfl) rfl rfl rfl ?_
  refine q_blk 2 [] (c' := q_kc (t, 0, m, z, N, ext, rx, L) (q_tW I 430 T2) (q_tW E 430 K2) 9 [some (.ref 450), some (.int x1), some (.ref 426), none] [.ref 426] [(452, r19.1), (454, r19.2.1), (455, r19.2.2.1), (456, r19.2.2.2.1)] [(453, r19.2.2.2.2)]) ok_X7_read rfl q_cn ?_
  obtain ⟨r20, hr20, hf⟩ := q_bd hf
  refine q_kV (M2 := m_X6_clear) (As := []) (b := 426) (v2 := none) ok_X7_read ok_X6_clear cv_X6_clear (ct_X6_clear_426 (d := 1) (Nat.le_refl _) hr20) rfl rfl (Or.inl rfl) rfl rfl rfl rfl (Nat.le_trans (Nat.le_of_ble_eq_true rfl) hd) (Nat.le_of_ble_eq_true rfl) (Nat.le_of_ble_eq_true rfl) (Nat.le_of_ble_eq_true rfl) (fun x hx => absurd hx List.not_mem_nil) (q_nmL0 _) (q_nmS0 _) rfl (pos' := 10) (st' := []) (lI' := [(426, r20), (452, r19.1), (454, r19.2.1), (455, r19.2.2.1), (456, r19.2.2.2.1)]) (lE' := [(453, r19.2.2.2.2)]) rfl rfl rfl rfl ?_
  refine q_blk 8 [] (c' := q_kc (t, 0, m, z, N, ext, rx, L) (q_tW I 430 T2) (q_tW E 430 K2) 18 [some (.ref 450), some (.int x1), some (.ref 426), some (.int (0 : Int32))] [] [(426, r20), (450, (q_up (q_up (I 450) 3 (0 : Int32)) 4 (0 : Int32))), (452, r19.1), (454, r19.2.1), (455, r19.2.2.1), (456, r19.2.2.2.1)] [(453, r19.2.2.2.2)]) ok_X7_read rfl q_cn ?_
  refine q_less (ls' := [some (.ref 450), none, none, some (.int (0 : Int32))]) (q_sb2 (q_sb1 (q_sb1 (q_sb2 q_sb0)))) ?_
  obtain ⟨r21, hr21, hf⟩ := q_bd hf
  refine q_JtW rfl rfl ?_
  refine lp_X7_read_L18_450_426 (I := q_ws I [(426, r20), (450, (q_up (q_up (I 450) 3 (0 : Int32)) 4 (0 : Int32))), (452, r19.1), (454, r19.2.1), (455, r19.2.2.1), (456, r19.2.2.2.1)]) (E := q_ws E [(453, r19.2.2.2.2)]) hd (Nat.le_of_ble_eq_true rfl) (Nat.le_of_ble_eq_true rfl) 4096 hr21 ?_
  refine q_JtWm rfl rfl (lI' := [(426, r21.1), (429, r21.2.1), (450, r21.2.2.1), (451, r21.2.2.2.1), (452, r19.1), (454, r19.2.1), (455, r19.2.2.1), (456, r19.2.2.2.1)]) (lE' := [(428, r21.2.2.2.2.1), (453, r19.2.2.2.2)]) rfl rfl ?_
  refine q_blk 2 [] (c' := q_kc (t, 0, m, z, N, ext, rx, L) (q_tW I 430 r21.2.2.2.2.2.1) (q_tW E 430 r21.2.2.2.2.2.2) 48 [some (.ref 450), none, none, none] [.int (r21.2.2.1 4)] [(426, r21.1), (429, r21.2.1), (450, r21.2.2.1), (451, r21.2.2.2.1), (452, r19.1), (454, r19.2.1), (455, r19.2.2.1), (456, r19.2.2.2.1)] [(428, r21.2.2.2.2.1), (453, r19.2.2.2.2)]) ok_X7_read rfl q_cn ?_
  cases hf
  exact q_kri ok_X7_read rfl rfl rfl (Nat.le_of_ble_eq_true rfl) (Nat.le_of_ble_eq_true rfl) ⟨rfl, q_hpe (q_fin [426, 429, 450, 451, 452, 454, 455, 456] rfl) (q_fin [428, 453] rfl)⟩
set_option maxHeartbeats 4000000 in
theorem ct_X11_position_452 {g : q_G} {t : Nat} {r : Nat} {m : Nat} {z : Nat} {N : Nat} {ext : Nat → q_Sh} {rx : Nat → Nat → Option Nat} {L : Nat → Nat → Int64} {d : Nat} (hd : 1 ≤ d)  {I : Nat → Nat → Int32} {E : Nat → Nat → Option Nat} {x1 : Int32} {r0 : Int32} (hf : f_X11_position (I 452) (I 454) x1 = some r0) : q_Ct g m_X11_position d 0 0 [] [.ref 452, .int x1] (q_hp (t, r, m, z, N, ext, rx, L) I E) (fun o h' => o = .inl (some (.int r0)) ∧ h' = q_hp (t, r, m, z, N, ext, rx, L) (q_ws I []) (q_ws E [])) := by
  rw [f_X11_position] at hf
  refine q_Ct_of ok_X11_position (Nat.le_of_ble_eq_true rfl) ?_ _ rfl rfl
  change q_J g m_X11_position d 0 0 _ [] _ 0 0 (q_kc (t, r, m, z, N, ext, rx, L) I E 0 [some (.ref 452), some (.int x1)] [] [] [])
  refine q_blf 1 [] (a := q_kc (t, r, m, z, N, ext, rx, L) I E 14 [some (.ref 452), some (.int x1)] [] [] []) (b := q_kc (t, r, m, z, N, ext, rx, L) I E 2 [some (.ref 452), some (.int x1)] [] [] []) (P := x1 < 0) ok_X11_position rfl q_cn (fun h1 => ?_) (fun h1 => ?_)
  · have hf := q_ip h1 hf
    refine q_blk 2 [] (c' := q_kc (t, r, m, z, N, ext, rx, L) I E 16 [some (.ref 452), some (.int x1)] [.int ((I 452) 5)] [] []) ok_X11_position rfl q_cn ?_
    cases hf
    exact q_kri ok_X11_position rfl rfl rfl (Nat.le_of_ble_eq_true rfl) (Nat.le_of_ble_eq_true rfl) ⟨rfl, q_hpe (q_fin [] rfl) (q_fin [] rfl)⟩
  · have hf := q_in h1 hf
    refine q_blf 3 [] (a := q_kc (t, r, m, z, N, ext, rx, L) I E 14 [some (.ref 452), some (.int x1)] [] [] []) (b := q_kc (t, r, m, z, N, ext, rx, L) I E 6 [some (.ref 452), some (.int x1)] [] [] []) (P := ((I 452) 6) ≤ x1) ok_X11_position rfl q_cn (fun h2 => ?_) (fun h2 => ?_)
    · have hf := q_ip h2 hf
      refine q_blk 2 [] (c' := q_kc (t, r, m, z, N, ext, rx, L) I E 16 [some (.ref 452), some (.int x1)] [.int ((I 452) 5)] [] []) ok_X11_position rfl q_cn ?_
      cases hf
      exact q_kri ok_X11_position rfl rfl rfl (Nat.le_of_ble_eq_true rfl) (Nat.le_of_ble_eq_true rfl) ⟨rfl, q_hpe (q_fin [] rfl) (q_fin [] rfl)⟩
    · have hf := q_in h2 hf
      refine q_blf 2 [] (a := q_kc (t, r, m, z, N, ext, rx, L) I E 14 [some (.ref 452), some (.int x1)] [] [] []) (b := q_kc (t, r, m, z, N, ext, rx, L) I E 9 [some (.ref 452), some (.int x1)] [] [] []) (P := (400 : Int32) < x1) ok_X11_position rfl q_cn (fun h3 => ?_) (fun h3 => ?_)
      · have hf := q_ip h3 hf
        refine q_blk 2 [] (c' := q_kc (t, r, m, z, N, ext, rx, L) I E 16 [some (.ref 452), some (.int x1)] [.int ((I 452) 5)] [] []) ok_X11_position rfl q_cn ?_
        cases hf
        exact q_kri ok_X11_position rfl rfl rfl (Nat.le_of_ble_eq_true rfl) (Nat.le_of_ble_eq_true rfl) ⟨rfl, q_hpe (q_fin [] rfl) (q_fin [] rfl)⟩
      · have hf := q_in h3 hf
        obtain ⟨j4, hj4, hf⟩ := q_bd hf
        refine q_blk 5 [j4] (c' := q_kc (t, r, m, z, N, ext, rx, L) I E 16 [some (.ref 452), some (.int x1)] [.int ((I 454) j4)] [] []) ok_X11_position rfl (q_cc hj4 q_cn) ?_
        cases hf
        exact q_kri ok_X11_position rfl rfl rfl (Nat.le_of_ble_eq_true rfl) (Nat.le_of_ble_eq_true rfl) ⟨rfl, q_hpe (q_fin [] rfl) (q_fin [] rfl)⟩
set_option maxHeartbeats 4000000 in
theorem ct_X7_position_450 {g : q_G} {t : Nat} {r : Nat} {m : Nat} {z : Nat} {N : Nat} {ext : Nat → q_Sh} {rx : Nat → Nat → Option Nat} {L : Nat → Nat → Int64} {d : Nat} (hd : 2 ≤ d)  {I : Nat → Nat → Int32} {E : Nat → Nat → Option Nat} {r0 : Int32} (hf : f_X7_position (I 450) (I 452) (I 454) = some r0) : q_Ct g m_X7_position d 0 0 [] [.ref 450] (q_hp (t, r, m, z, N, ext, rx, L) I E) (fun o h' => o = .inl (some (.int r0)) ∧ h' = q_hp (t, r, m, z, N, ext, rx, L) (q_ws I []) (q_ws E [])) := by
  rw [f_X7_position] at hf
  refine q_Ct_of ok_X7_position (Nat.le_of_ble_eq_true rfl) ?_ _ rfl rfl
  change q_J g m_X7_position d 0 0 _ [] _ 0 0 (q_kc (t, r, m, z, N, ext, rx, L) I E 0 [some (.ref 450)] [] [] [])
  refine q_blf 2 [] (a := q_kc (t, r, m, z, N, ext, rx, L) I E 5 [some (.ref 450)] [] [] []) (b := q_kc (t, r, m, z, N, ext, rx, L) I E 3 [some (.ref 450)] [] [] []) (P := ¬ ((I 450) 4) = 0) ok_X7_position rfl q_cn (fun h1 => ?_) (fun h1 => ?_)
  · have hf := q_ip h1 hf
    refine q_blk 4 [] (c' := q_kc (t, r, m, z, N, ext, rx, L) I E 9 [some (.ref 450)] [.int ((I 450) 5), .ref 452] [] []) ok_X7_position rfl q_cn ?_
    obtain ⟨r2, hr2, hf⟩ := q_bd hf
    refine q_kV (M2 := m_X11_position) (As := [.int ((I 450) 5)]) (b := 452) (v2 := some (.int r2)) ok_X7_position ok_X11_position cv_X11_position (ct_X11_position_452 (d := 1) (Nat.le_refl _) hr2) rfl rfl (Or.inl rfl) rfl rfl rfl rfl (Nat.le_trans (Nat.le_of_ble_eq_true rfl) hd) (Nat.le_of_ble_eq_true rfl) (Nat.le_of_ble_eq_true rfl) (Nat.le_of_ble_eq_true rfl) (fun x hx => absurd hx List.not_mem_nil) (q_nmL0 _) (q_nmS0 _) rfl (pos' := 10) (st' := [.int r2]) (lI' := []) (lE' := []) rfl rfl rfl rfl ?_
    cases hf
    exact q_kri ok_X7_position rfl rfl rfl (Nat.le_of_ble_eq_true rfl) (Nat.le_of_ble_eq_true rfl) ⟨rfl, q_hpe (q_fin [] rfl) (q_fin [] rfl)⟩
  · have hf := q_in h1 hf
    refine q_blk 2 [] (c' := q_kc (t, r, m, z, N, ext, rx, L) I E 10 [some (.ref 450)] [.int (-1 : Int32)] [] []) ok_X7_position rfl q_cn ?_
    cases hf
    exact q_kri ok_X7_position rfl rfl rfl (Nat.le_of_ble_eq_true rfl) (Nat.le_of_ble_eq_true rfl) ⟨rfl, q_hpe (q_fin [] rfl) (q_fin [] rfl)⟩
set_option maxHeartbeats 4000000 in
theorem ct_X1_clear_458 {g : q_G} {t : Nat} {r : Nat} {m : Nat} {z : Nat} {N : Nat} {ext : Nat → q_Sh} {rx : Nat → Nat → Option Nat} {L : Nat → Nat → Int64} {d : Nat} (hd : 2 ≤ d)  {I : Nat → Nat → Int32} {E : Nat → Nat → Option Nat} {r0 : (Nat → Int32)} (hf : f_X1_clear (I 459) = some r0) : q_Ct g m_X1_clear d 0 0 [] [.ref 458] (q_hp (t, r, m, z, N, ext, rx, L) I E) (fun o h' => o = .inl none ∧ h' = q_hp (t, r, m, z, N, ext, rx, L) (q_ws I [(459, r0)]) (q_ws E [])) := by
  rw [f_X1_clear] at hf
  refine q_Ct_of ok_X1_clear (Nat.le_of_ble_eq_true rfl) ?_ _ rfl rfl
  change q_J g m_X1_clear d 0 0 _ [] _ 0 0 (q_kc (t, r, m, z, N, ext, rx, L) I E 0 [some (.ref 458)] [] [] [])
  refine q_blk 3 [] (c' := q_kc (t, r, m, z, N, ext, rx, L) I E 3 [some (.ref 458)] [.int (0 : Int32), .ref 459] [] []) ok_X1_clear rfl q_cn ?_
  refine q_kS (M2 := m_J7_fill_53178) (As := [.ref 459, .int (0 : Int32)]) (v2 := none) ok_X1_clear ok_J7_fill_53178 cs_J7_fill_53178 (ct_fill (d := 1) (a := 459) (L := 128) (Nat.le_refl _) rfl rfl rfl) rfl rfl (Or.inl rfl) (Nat.le_trans (Nat.le_of_ble_eq_true rfl) hd) (Nat.le_of_ble_eq_true rfl) (Nat.le_of_ble_eq_true rfl) (Nat.le_of_ble_eq_true rfl) (fun x hx => absurd hx List.not_mem_nil) (q_nmL0 _) (q_nmS0 _) rfl (pos' := 4) (st' := []) (lI' := [(459, (q_fil 128 (0 : Int32) (I 459)))]) (lE' := []) rfl rfl rfl rfl ?_
  cases hf
  exact q_krv ok_X1_clear rfl rfl (Nat.le_of_ble_eq_true rfl) (Nat.le_of_ble_eq_true rfl) ⟨rfl, q_hpe (q_fin [459] rfl) (q_fin [] rfl)⟩
set_option maxHeartbeats 4000000 in
theorem ct_X5_clear_465 {g : q_G} {t : Nat} {r : Nat} {m : Nat} {z : Nat} {N : Nat} {ext : Nat → q_Sh} {rx : Nat → Nat → Option Nat} {L : Nat → Nat → Int64} {d : Nat} (hd : 2 ≤ d)  {I : Nat → Nat → Int32} {E : Nat → Nat → Option Nat} {x1 : Int32} {r0 : (Nat → Int32) × (Nat → Int32)} (hf : f_X5_clear (I 465) (I 466) x1 = some r0) : q_Ct g m_X5_clear d 0 0 [] [.ref 465, .int x1] (q_hp (t, r, m, z, N, ext, rx, L) I E) (fun o h' => o = .inl none ∧ h' = q_hp (t, r, m, z, N, ext, rx, L) (q_ws I [(465, r0.1), (466, r0.2)]) (q_ws E [])) := by
  rw [f_X5_clear] at hf
  refine q_Ct_of ok_X5_clear (Nat.le_of_ble_eq_true rfl) ?_ _ rfl rfl
  change q_J g m_X5_clear d 0 0 _ [] _ 0 0 (q_kc (t, r, m, z, N, ext, rx, L) I E 0 [some (.ref 465), some (.int x1)] [] [] [])
  refine q_blk 3 [] (c' := q_kc (t, r, m, z, N, ext, rx, L) I E 3 [some (.ref 465), some (.int x1)] [.int (-1 : Int32), .ref 466] [] []) ok_X5_clear rfl q_cn ?_
  refine q_kS (M2 := m_J7_fill_53178) (As := [.ref 466, .int (-1 : Int32)]) (v2 := none) ok_X5_clear ok_J7_fill_53178 cs_J7_fill_53178 (ct_fill (d := 1) (a := 466) (L := 64) (Nat.le_refl _) rfl rfl rfl) rfl rfl (Or.inl rfl) (Nat.le_trans (Nat.le_of_ble_eq_true rfl) hd) (Nat.le_of_ble_eq_true rfl) (Nat.le_of_ble_eq_true rfl) (Nat.le_of_ble_eq_true rfl) (fun x hx => absurd hx List.not_mem_nil) (q_nmL0 _) (q_nmS0 _) rfl (pos' := 4) (st' := []) (lI' := [(466, (q_fil 64 (-1 : Int32) (I 466)))]) (lE' := []) rfl rfl rfl rfl ?_
  refine q_blk 3 [] (c' := q_kc (t, r, m, z, N, ext, rx, L) I E 7 [some (.ref 465), some (.int x1)] [.int (0 : Int32), .int x1, .ref 465] [(466, (q_fil 64 (-1 : Int32) (I 466)))] []) ok_X5_clear rfl q_cn ?_
  refine q_kmx (pos' := 8) ok_X5_clear rfl rfl (Nat.le_trans (Nat.le_of_ble_eq_true rfl) hd) (Nat.le_of_ble_eq_true rfl) (Nat.le_of_ble_eq_true rfl) (Nat.le_of_ble_eq_true rfl) rfl ?_
  refine q_blk 1 [] (c' := q_kc (t, r, m, z, N, ext, rx, L) I E 9 [some (.ref 465), some (.int x1)] [.int (64 : Int32), .int (q_max x1 (0 : Int32)), .ref 465] [(466, (q_fil 64 (-1 : Int32) (I 466)))] []) ok_X5_clear rfl q_cn ?_
  refine q_kmn (pos' := 10) ok_X5_clear rfl rfl (Nat.le_trans (Nat.le_of_ble_eq_true rfl) hd) (Nat.le_of_ble_eq_true rfl) (Nat.le_of_ble_eq_true rfl) (Nat.le_of_ble_eq_true rfl) rfl ?_
  refine q_blk 4 [] (c' := q_kc (t, r, m, z, N, ext, rx, L) I E 14 [some (.ref 465), some (.int x1)] [] [(465, (q_up (q_up (I 465) 1 (q_min (q_max x1 (0 : Int32)) (64 : Int32))) 2 (0 : Int32))), (466, (q_fil 64 (-1 : Int32) (I 466)))] []) ok_X5_clear rfl q_cn ?_
  cases hf
  exact q_krv ok_X5_clear rfl rfl (Nat.le_of_ble_eq_true rfl) (Nat.le_of_ble_eq_true rfl) ⟨rfl, q_hpe (q_fin [465, 466] rfl) (q_fin [] rfl)⟩
set_option maxHeartbeats 4000000 in
theorem ct_X2_begin_457_402 {g : q_G} {t : Nat} {r : Nat} {m : Nat} {z : Nat} {N : Nat} {ext : Nat → q_Sh} {rx : Nat → Nat → Option Nat} {L : Nat → Nat → Int64} {d : Nat} (hd : 3 ≤ d)  {I : Nat → Nat → Int32} {E : Nat → Nat → Option Nat} {r0 : (Nat → Int32) × (Nat → Int32) × (Nat → Int32) × (Nat → Int32) × (Nat → Int32)} (hf : f_X2_begin (I 402) (I 457) (I 459) (I 465) (I 466) (I 470) = some r0) : q_Ct g m_X2_begin d 0 0 [] [.ref 457, .ref 402] (q_hp (t, r, m, z, N, ext, rx, L) I E) (fun o h' => o = .inl none ∧ h' = q_hp (t, r, m, z, N, ext, rx, L) (q_ws I [(457, r0.1), (459, r0.2.1), (465, r0.2.2.1), (466, r0.2.2.2.1), (470, r0.2.2.2.2)]) (q_ws E [])) := by
  rw [f_X2_begin] at hf
  refine q_Ct_of ok_X2_begin (Nat.le_of_ble_eq_true rfl) ?_ _ rfl rfl
  change q_J g m_X2_begin d 0 0 _ [] _ 0 0 (q_kc (t, r, m, z, N, ext, rx, L) I E 0 [some (.ref 457), some (.ref 402)] [] [] [])
  refine q_blk 2 [] (c' := q_kc (t, r, m, z, N, ext, rx, L) I E 2 [some (.ref 457), some (.ref 402)] [.ref 402, .ref 457] [] []) ok_X2_begin rfl q_cn ?_
  refine q_kpS (pos' := 3) ok_X2_begin rfl rfl rfl rfl rfl rfl rfl ?_
  refine q_blk 2 [] (c' := q_kc (t, r, m, z, N, ext, rx, L) I E 5 [some (.ref 457), some (.ref 402)] [.ref 458] [] []) ok_X2_begin rfl q_cn ?_
  obtain ⟨r1, hr1, hf⟩ := q_bd hf
  refine q_kV (M2 := m_X1_clear) (As := []) (b := 458) (v2 := none) ok_X2_begin ok_X1_clear cv_X1_clear (ct_X1_clear_458 (d := 2) (Nat.le_refl _) hr1) rfl rfl (Or.inl rfl) rfl rfl rfl rfl (Nat.le_trans (Nat.le_of_ble_eq_true rfl) hd) (Nat.le_of_ble_eq_true rfl) (Nat.le_of_ble_eq_true rfl) (Nat.le_of_ble_eq_true rfl) (fun x hx => absurd hx List.not_mem_nil) (q_nmL0 _) (q_nmS0 _) rfl (pos' := 6) (st' := []) (lI' := [(459, r1)]) (lE' := []) rfl rfl rfl rfl ?_
  refine q_blk 4 [] (c' := q_kc (t, r, m, z, N, ext, rx, L) I E 10 [some (.ref 457), some (.ref 402)] [.int ((I 402) 1), .ref 465] [(459, r1)] []) ok_X2_begin rfl q_cn ?_
  obtain ⟨r2, hr2, hf⟩ := q_bd hf
  refine q_kV (M2 := m_X5_clear) (As := [.int ((I 402) 1)]) (b := 465) (v2 := none) ok_X2_begin ok_X5_clear cv_X5_clear (ct_X5_clear_465 (d := 2) (Nat.le_refl _) hr2) rfl rfl (Or.inl rfl) rfl rfl rfl rfl (Nat.le_trans (Nat.le_of_ble_eq_true rfl) hd) (Nat.le_of_ble_eq_true rfl) (Nat.le_of_ble_eq_true rfl) (Nat.le_of_ble_eq_true rfl) (fun x hx => absurd hx List.not_mem_nil) (q_nmL0 _) (q_nmS0 _) rfl (pos' := 11) (st' := []) (lI' := [(459, r1), (465, r2.1), (466, r2.2)]) (lE' := []) rfl rfl rfl rfl ?_
  refine q_blk 3 [] (c' := q_kc (t, r, m, z, N, ext, rx, L) I E 14 [some (.ref 457), some (.ref 402)] [.int (-1 : Int32), .ref 470] [(459, r1), (465, r2.1), (466, r2.2)] []) ok_X2_begin rfl q_cn ?_
  refine q_kS (M2 := m_J7_fill_53178) (As := [.ref 470, .int (-1 : Int32)]) (v2 := none) ok_X2_begin ok_J7_fill_53178 cs_J7_fill_53178 (ct_fill (d := 1) (a := 470) (L := 6) (Nat.le_refl _) rfl rfl rfl) rfl rfl (Or.inl rfl) (Nat.le_trans (Nat.le_of_ble_eq_true rfl) hd) (Nat.le_of_ble_eq_true rfl) (Nat.le_of_ble_eq_true rfl) (Nat.le_of_ble_eq_true rfl) (fun x hx => absurd hx List.not_mem_nil) (q_nmL0 _) (q_nmS0 _) rfl (pos' := 15) (st' := []) (lI' := [(459, r1), (465, r2.1), (466, r2.2), (470, (q_fil 6 (-1 : Int32) (I 470)))]) (lE' := []) rfl rfl rfl rfl ?_
  refine q_blk 24 [] (c' := q_kc (t, r, m, z, N, ext, rx, L) I E 39 [some (.ref 457), some (.ref 402)] [] [(457, (q_up (q_up (q_up (q_up (q_up (q_up (q_up (q_up (I 457) 7 (0 : Int32)) 8 (0 : Int32)) 9 (0 : Int32)) 10 (0 : Int32)) 11 (0 : Int32)) 12 (0 : Int32)) 13 (0 : Int32)) 14 (0 : Int32))), (459, r1), (465, r2.1), (466, r2.2), (470, (q_fil 6 (-1 : Int32) (I 470)))] []) ok_X2_begin rfl q_cn ?_
  cases hf
  exact q_krv ok_X2_begin rfl rfl (Nat.le_of_ble_eq_true rfl) (Nat.le_of_ble_eq_true rfl) ⟨rfl, q_hpe (q_fin [457, 459, 465, 466, 470] rfl) (q_fin [] rfl)⟩
set_option maxHeartbeats 4000000 in
theorem ct_X15_thrown_492 {g : q_G} {t : Nat} {r : Nat} {m : Nat} {z : Nat} {N : Nat} {ext : Nat → q_Sh} {rx : Nat → Nat → Option Nat} {L : Nat → Nat → Int64} {d : Nat} (hd : 1 ≤ d)  {I : Nat → Nat → Int32} {E : Nat → Nat → Option Nat} {r0 : Int32} (hf : f_X15_thrown (I 492) = some r0) : q_Ct g m_X15_thrown d 0 0 [] [.ref 492] (q_hp (t, r, m, z, N, ext, rx, L) I E) (fun o h' => o = .inl (some (.int r0)) ∧ h' = q_hp (t, r, m, z, N, ext, rx, L) (q_ws I []) (q_ws E [])) := by
  rw [f_X15_thrown] at hf
  refine q_Ct_of ok_X15_thrown (Nat.le_of_ble_eq_true rfl) ?_ _ rfl rfl
  change q_J g m_X15_thrown d 0 0 _ [] _ 0 0 (q_kc (t, r, m, z, N, ext, rx, L) I E 0 [some (.ref 492)] [] [] [])
  refine q_blk 2 [] (c' := q_kc (t, r, m, z, N, ext, rx, L) I E 2 [some (.ref 492)] [.int ((I 492) 0)] [] []) ok_X15_thrown rfl q_cn ?_
  cases hf
  exact q_kri ok_X15_thrown rfl rfl rfl (Nat.le_of_ble_eq_true rfl) (Nat.le_of_ble_eq_true rfl) ⟨rfl, q_hpe (q_fin [] rfl) (q_fin [] rfl)⟩
set_option maxHeartbeats 4000000 in
theorem ct_X15_no_492 {g : q_G} {t : Nat} {r : Nat} {m : Nat} {z : Nat} {N : Nat} {ext : Nat → q_Sh} {rx : Nat → Nat → Option Nat} {L : Nat → Nat → Int64} {d : Nat} (hd : 1 ≤ d)  {I : Nat → Nat → Int32} {E : Nat → Nat → Option Nat} {x1 : Int32} {r0 : Int32 × (Nat → Int32)} (hf : f_X15_no (I 492) x1 = some r0) : q_Ct g m_X15_no d 0 0 [] [.ref 492, .int x1] (q_hp (t, r, m, z, N, ext, rx, L) I E) (fun o h' => o = .inl (some (.int r0.1)) ∧ h' = q_hp (t, r, m, z, N, ext, rx, L) (q_ws I [(492, r0.2)]) (q_ws E [])) := by
  rw [f_X15_no] at hf
  refine q_Ct_of ok_X15_no (Nat.le_of_ble_eq_true rfl) ?_ _ rfl rfl
  change q_J g m_X15_no d 0 0 _ [] _ 0 0 (q_kc (t, r, m, z, N, ext, rx, L) I E 0 [some (.ref 492), some (.int x1)] [] [] [])
  refine q_blk 4 [] (c' := q_kc (t, r, m, z, N, ext, rx, L) I E 4 [some (.ref 492), some (.int x1)] [.int (0 : Int32)] [(492, (q_up (I 492) 0 x1))] []) ok_X15_no rfl q_cn ?_
  cases hf
  exact q_kri ok_X15_no rfl rfl rfl (Nat.le_of_ble_eq_true rfl) (Nat.le_of_ble_eq_true rfl) ⟨rfl, q_hpe (q_fin [492] rfl) (q_fin [] rfl)⟩
set_option maxHeartbeats 4000000 in
theorem lp_X15_feed_L36_492 {g : q_G} {d mc ms : Nat} {h0 : q_H} {Q : (Option Value ⊕ String) → q_H → Prop} {k n : Nat} {t : Nat} {r : Nat} {m : Nat} {z : Nat} {ext : Nat → q_Sh} {rx : Nat → Nat → Option Nat} {L : Nat → Nat → Int64} (hd : 2 ≤ d) (hk : k ≤ mc) (hn : n ≤ ms)  : ∀ (fu : Nat) {I : Nat → Nat → Int32} {E : Nat → Nat → Option Nat} {v7 : Int32} {r0 : (Nat → Int32)} (hf : f_X15_feed_L36 (I 492) (I 529) fu (I 493) v7 = some r0) (hK0 : q_J g m_X15_feed d mc ms h0 [] Q k n (q_kc (t, r, m, z, 530, (q_ur ext 529 (1, 0, 5)), rx, L) I E 63 [some (.ref 492), none, none, none, none, none, none, none] [] [(493, r0)] [])), q_J g m_X15_feed d mc ms h0 [] Q k n (36, [some (.ref 492), none, none, none, none, none, some (.ref 529), some (.int v7)], [], q_hp (t, r, m, z, 530, (q_ur ext 529 (1, 0, 5)), rx, L) I E) := by
  intro fu
  induction fu with
  | zero =>
    intro I E v7 r0 hf hK0
    rw [f_X15_feed_L36] at hf
    cases hf
  | succ fu ih =>
    intro I E v7 r0 hf hK0
    rw [f_X15_feed_L36] at hf
    change q_J g m_X15_feed d mc ms h0 [] Q k n (q_kc (t, r, m, z, 530, (q_ur ext 529 (1, 0, 5)), rx, L) I E 36 [some (.ref 492), none, none, none, none, none, some (.ref 529), some (.int v7)] [] [] [])
    refine q_blf 2 [] (a := q_kc (t, r, m, z, 530, (q_ur ext 529 (1, 0, 5)), rx, L) I E 63 [some (.ref 492), none, none, none, none, none, some (.ref 529), some (.int v7)] [] [] []) (b := q_kc (t, r, m, z, 530, (q_ur ext 529 (1, 0, 5)), rx, L) I E 39 [some (.ref 492), none, none, none, none, none, some (.ref 529), some (.int v7)] [] [] []) (P := (20 : Int32) ≤ v7) ok_X15_feed rfl q_cn (fun h1 => ?_) (fun h1 => ?_)
    · have hf := q_ip h1 hf
      refine q_less (ls' := [some (.ref 492), none, none, none, none, none, none, none]) (q_sb2 (q_sb1 (q_sb1 (q_sb1 (q_sb1 (q_sb1 (q_sb1 (q_sb1 q_sb0)))))))) ?_
      cases hf
      exact q_Jpad [493] [] rfl rfl hK0
    · have hf := q_in h1 hf
      refine q_blk 9 [] (c' := q_kc (t, r, m, z, 530, (q_ur ext 529 (1, 0, 5)), rx, L) I E 48 [some (.ref 492), none, none, none, none, none, some (.ref 529), some (.int v7)] [.int (4 : Int32), .int v7, .ref 529, .int (((I 492) 2) + v7), .ref 493] [] []) ok_X15_feed rfl q_cn ?_
      refine q_kdv (pos' := 49) ok_X15_feed rfl (by decide) rfl ?_
      obtain ⟨j2, hj2, hf⟩ := q_bd hf
      refine q_blk 5 [j2] (c' := q_kc (t, r, m, z, 530, (q_ur ext 529 (1, 0, 5)), rx, L) I E 54 [some (.ref 492), none, none, none, none, none, some (.ref 529), some (.int v7)] [.int (4 : Int32), .int v7, .int (8 : Int32), .int (24 : Int32), .int ((I 529) j2), .int (((I 492) 2) + v7), .ref 493] [] []) ok_X15_feed rfl (q_cc hj2 q_cn) ?_
      refine q_krm (pos' := 55) ok_X15_feed rfl (by decide) rfl ?_
      obtain ⟨j3, hj3, hf⟩ := q_bd hf
      refine q_blk 8 [j3] (c' := q_kc (t, r, m, z, 530, (q_ur ext 529 (1, 0, 5)), rx, L) I E 36 [some (.ref 492), none, none, none, none, none, some (.ref 529), some (.int (v7 + 1))] [] [(493, (q_up (I 493) j3 ((((I 529) j2) >>> (((24 : Int32) - ((8 : Int32) * (v7 - v7 / (4 : Int32) * (4 : Int32)))) &&& 31)) &&& (255 : Int32))))] []) ok_X15_feed rfl (q_cc hj3 q_cn) ?_
      exact ih (I := q_ws I [(493, (q_up (I 493) j3 ((((I 529) j2) >>> (((24 : Int32) - ((8 : Int32) * (v7 - v7 / (4 : Int32) * (4 : Int32)))) &&& 31)) &&& (255 : Int32))))]) (E := q_ws E []) hf (q_Jmrg rfl rfl hK0)
set_option maxHeartbeats 4000000 in
theorem ct_X15_feed_492 {g : q_G} {t : Nat} {r : Nat} {m : Nat} {ext : Nat → q_Sh} {rx : Nat → Nat → Option Nat} {L : Nat → Nat → Int64} {d : Nat} (hd : 2 ≤ d)  {I : Nat → Nat → Int32} {E : Nat → Nat → Option Nat} {x1 : Int32} {x2 : Int32} {x3 : Int32} {x4 : Int32} {x5 : Int32} {r0 : Int32 × (Nat → Int32) × (Nat → Int32)} (hf : f_X15_feed (I 492) (I 493) x1 x2 x3 x4 x5 = some r0) : q_Ct g m_X15_feed d 1 5 [] [.ref 492, .int x1, .int x2, .int x3, .int x4, .int x5] (q_hp (t, r, m, 499, 529, ext, rx, L) I E) (fun o h' => o = .inl (some (.int r0.1)) ∧ h' = q_hp (t, r, m, 499, 529, ext, rx, L) (q_ws I [(492, r0.2.1), (493, r0.2.2)]) (q_ws E [])) := by
  rw [f_X15_feed] at hf
  refine q_Ct_of ok_X15_feed (Nat.le_of_ble_eq_true rfl) ?_ _ rfl rfl
  change q_J g m_X15_feed d 1 5 _ [] _ 0 0 (q_kc (t, r, m, 499, 529, ext, rx, L) I E 0 [some (.ref 492), some (.int x1), some (.int x2), some (.int x3), some (.int x4), some (.int x5), none, none] [] [] [])
  refine q_clo_J (fun hclo0 => ?_)
  refine q_blf 6 [] (a := q_kc (t, r, m, 499, 529, ext, rx, L) I E 11 [some (.ref 492), some (.int x1), some (.int x2), some (.int x3), some (.int x4), some (.int x5), none, none] [] [(492, (q_up (I 492) 0 (0 : Int32)))] []) (b := q_kc (t, r, m, 499, 529, ext, rx, L) I E 7 [some (.ref 492), some (.int x1), some (.int x2), some (.int x3), some (.int x4), some (.int x5), none, none] [] [(492, (q_up (I 492) 0 (0 : Int32)))] []) (P := ((q_up (I 492) 0 (0 : Int32)) 2) ≤ (1980 : Int32)) ok_X15_feed rfl q_cn (fun h4 => ?_) (fun h4 => ?_)
  · have hf := q_ip h4 hf
    refine q_blk 1 [] (c' := q_kc (t, r, m, 499, 529, ext, rx, L) I E 12 [some (.ref 492), some (.int x1), some (.int x2), some (.int x3), some (.int x4), some (.int x5), none, none] [.int (5 : Int32)] [(492, (q_up (I 492) 0 (0 : Int32)))] []) ok_X15_feed rfl q_cn ?_
    refine q_knewI (Lw := 5) (pos' := 13) (lI' := [(492, (q_up (I 492) 0 (0 : Int32))), (529, (fun _ => 0))]) (lE' := [(529, (fun _ => none))]) ok_X15_feed rfl rfl rfl (Nat.le_of_ble_eq_true rfl) (Nat.le_of_ble_eq_true rfl) rfl rfl rfl ?_
    obtain ⟨j5, hj5, hf⟩ := q_bd hf
    obtain ⟨j6, hj6, hf⟩ := q_bd hf
    obtain ⟨j7, hj7, hf⟩ := q_bd hf
    obtain ⟨j8, hj8, hf⟩ := q_bd hf
    obtain ⟨j9, hj9, hf⟩ := q_bd hf
    refine q_blk 23 [j5, j6, j7, j8, j9] (c' := q_kc (t, r, m, 499, 530, (q_ur ext 529 (1, 0, 5)), (q_ur rx 529 (fun _ => none)), (q_ur L 529 (fun _ => 0))) I E 36 [some (.ref 492), some (.int x1), some (.int x2), some (.int x3), some (.int x4), some (.int x5), some (.ref 529), some (.int (0 : Int32))] [] [(492, (q_up (I 492) 0 (0 : Int32))), (529, (q_up (q_up (q_up (q_up (q_up (fun _ => 0) j5 x1) j6 x2) j7 x3) j8 x4) j9 x5))] [(529, (fun _ => none))]) ok_X15_feed rfl (q_cc hj9 (q_cc hj8 (q_cc hj7 (q_cc hj6 (q_cc hj5 q_cn))))) ?_
    refine q_less (ls' := [some (.ref 492), none, none, none, none, none, some (.ref 529), some (.int (0 : Int32))]) (q_sb2 (q_sb1 (q_sb1 (q_sb1 (q_sb1 (q_sb1 (q_sb2 (q_sb2 q_sb0)))))))) ?_
    obtain ⟨r10, hr10, hf⟩ := q_bd hf
    refine lp_X15_feed_L36_492 (I := q_ws I [(492, (q_up (I 492) 0 (0 : Int32))), (529, (q_up (q_up (q_up (q_up (q_up (fun _ => 0) j5 x1) j6 x2) j7 x3) j8 x4) j9 x5))]) (E := q_ws E [(529, (fun _ => none))]) hd (Nat.le_of_ble_eq_true rfl) (Nat.le_of_ble_eq_true rfl) 4096 hr10 ?_
    refine q_Jmrg (lI' := [(492, (q_up (I 492) 0 (0 : Int32))), (493, r10), (529, (q_up (q_up (q_up (q_up (q_up (fun _ => 0) j5 x1) j6 x2) j7 x3) j8 x4) j9 x5))]) (lE' := [(529, (fun _ => none))]) rfl rfl ?_
    refine q_blk 8 [] (c' := q_kc (t, r, m, 499, 530, (q_ur ext 529 (1, 0, 5)), (q_ur rx 529 (fun _ => none)), (q_ur L 529 (fun _ => 0))) I E 71 [some (.ref 492), none, none, none, none, none, none, none] [.int ((q_up (q_up (I 492) 0 (0 : Int32)) 2 (((q_up (I 492) 0 (0 : Int32)) 2) + (20 : Int32))) 2)] [(492, (q_up (q_up (I 492) 0 (0 : Int32)) 2 (((q_up (I 492) 0 (0 : Int32)) 2) + (20 : Int32)))), (493, r10), (529, (q_up (q_up (q_up (q_up (q_up (fun _ => 0) j5 x1) j6 x2) j7 x3) j8 x4) j9 x5))] [(529, (fun _ => none))]) ok_X15_feed rfl q_cn ?_
    cases hf
    refine q_less (ls' := [none, none, none, none, none, none, none, none]) (q_sb1 (q_sb1 (q_sb1 (q_sb1 (q_sb1 (q_sb1 (q_sb1 (q_sb1 q_sb0)))))))) ?_
    refine q_kdrop (lI0 := [(492, (q_up (q_up (I 492) 0 (0 : Int32)) 2 (((q_up (I 492) 0 (0 : Int32)) 2) + (20 : Int32)))), (493, r10)]) (lE0 := []) hclo0 rfl rfl (q_nrS_of rfl) (q_nrL_of rfl) (Nat.le_refl _) rfl ?_
    exact q_kri ok_X15_feed rfl rfl rfl (Nat.le_of_ble_eq_true rfl) (Nat.le_of_ble_eq_true rfl) ⟨rfl, q_hpe (q_fin [492, 493] rfl) (q_fin [] rfl)⟩
  · have hf := q_in h4 hf
    refine q_blk 2 [] (c' := q_kc (t, r, m, 499, 529, ext, rx, L) I E 9 [some (.ref 492), some (.int x1), some (.int x2), some (.int x3), some (.int x4), some (.int x5), none, none] [.int (1 : Int32), .ref 492] [(492, (q_up (I 492) 0 (0 : Int32)))] []) ok_X15_feed rfl q_cn ?_
    obtain ⟨r11, hr11, hf⟩ := q_bd hf
    refine q_kV (M2 := m_X15_no) (As := [.int (1 : Int32)]) (b := 492) (v2 := some (.int r11.1)) ok_X15_feed ok_X15_no cv_X15_no (ct_X15_no_492 (d := 1) (Nat.le_refl _) hr11) rfl rfl (Or.inl rfl) rfl rfl rfl rfl (Nat.le_trans (Nat.le_of_ble_eq_true rfl) hd) (Nat.le_of_ble_eq_true rfl) (Nat.le_of_ble_eq_true rfl) (Nat.le_of_ble_eq_true rfl) (fun x hx => absurd hx List.not_mem_nil) (q_nmL0 _) (q_nmS0 _) rfl (pos' := 10) (st' := [.int r11.1]) (lI' := [(492, r11.2)]) (lE' := []) rfl rfl rfl rfl ?_
    cases hf
    exact q_kri ok_X15_feed rfl rfl rfl (Nat.le_of_ble_eq_true rfl) (Nat.le_of_ble_eq_true rfl) ⟨rfl, q_hpe (q_fin [492, 493] rfl) (q_fin [] rfl)⟩
set_option maxHeartbeats 4000000 in
theorem ct_X15_isIn {g : q_G} {t : Nat} {r : Nat} {m : Nat} {z : Nat} {N : Nat} {ext : Nat → q_Sh} {rx : Nat → Nat → Option Nat} {L : Nat → Nat → Int64} {d : Nat} (hd : 1 ≤ d)  {I : Nat → Nat → Int32} {E : Nat → Nat → Option Nat} {x0 : Int32} {x1 : Int32} {x2 : Int32} {r0 : Bool} (hf : f_X15_isIn x0 x1 x2 = some r0) : q_Ct g m_X15_isIn d 0 0 [] [.int x0, .int x1, .int x2] (q_hp (t, r, m, z, N, ext, rx, L) I E) (fun o h' => o = .inl (some (.int (q_bz r0))) ∧ h' = q_hp (t, r, m, z, N, ext, rx, L) (q_ws I []) (q_ws E [])) := by
  rw [f_X15_isIn] at hf
  refine q_Ct_of ok_X15_isIn (Nat.le_of_ble_eq_true rfl) ?_ _ rfl rfl
  change q_J g m_X15_isIn d 0 0 _ [] _ 0 0 (q_kc (t, r, m, z, N, ext, rx, L) I E 0 [some (.int x0), some (.int x1), some (.int x2)] [] [] [])
  refine q_blf 2 [] (a := q_kc (t, r, m, z, N, ext, rx, L) I E 8 [some (.int x0), some (.int x1), some (.int x2)] [] [] []) (b := q_kc (t, r, m, z, N, ext, rx, L) I E 3 [some (.int x0), some (.int x1), some (.int x2)] [] [] []) (P := x0 < x1) ok_X15_isIn rfl q_cn (fun h1 => ?_) (fun h1 => ?_)
  · have hf := q_ip h1 hf
    refine q_blk 1 [] (c' := q_kc (t, r, m, z, N, ext, rx, L) I E 9 [some (.int x0), some (.int x1), some (.int x2)] [.int (0 : Int32)] [] []) ok_X15_isIn rfl q_cn ?_
    cases hf
    exact q_kri ok_X15_isIn rfl rfl rfl (Nat.le_of_ble_eq_true rfl) (Nat.le_of_ble_eq_true rfl) ⟨rfl, q_hpe (q_fin [] rfl) (q_fin [] rfl)⟩
  · have hf := q_in h1 hf
    refine q_blf 2 [] (a := q_kc (t, r, m, z, N, ext, rx, L) I E 8 [some (.int x0), some (.int x1), some (.int x2)] [] [] []) (b := q_kc (t, r, m, z, N, ext, rx, L) I E 6 [some (.int x0), some (.int x1), some (.int x2)] [] [] []) (P := x2 < x0) ok_X15_isIn rfl q_cn (fun h2 => ?_) (fun h2 => ?_)
    · have hf := q_ip h2 hf
      refine q_blk 1 [] (c' := q_kc (t, r, m, z, N, ext, rx, L) I E 9 [some (.int x0), some (.int x1), some (.int x2)] [.int (0 : Int32)] [] []) ok_X15_isIn rfl q_cn ?_
      cases hf
      exact q_kri ok_X15_isIn rfl rfl rfl (Nat.le_of_ble_eq_true rfl) (Nat.le_of_ble_eq_true rfl) ⟨rfl, q_hpe (q_fin [] rfl) (q_fin [] rfl)⟩
    · have hf := q_in h2 hf
      refine q_blk 2 [] (c' := q_kc (t, r, m, z, N, ext, rx, L) I E 9 [some (.int x0), some (.int x1), some (.int x2)] [.int (1 : Int32)] [] []) ok_X15_isIn rfl q_cn ?_
      cases hf
      exact q_kri ok_X15_isIn rfl rfl rfl (Nat.le_of_ble_eq_true rfl) (Nat.le_of_ble_eq_true rfl) ⟨rfl, q_hpe (q_fin [] rfl) (q_fin [] rfl)⟩
set_option maxHeartbeats 4000000 in
theorem ct_X15_trim_492 {g : q_G} {t : Nat} {r : Nat} {m : Nat} {z : Nat} {N : Nat} {ext : Nat → q_Sh} {rx : Nat → Nat → Option Nat} {L : Nat → Nat → Int64} {d : Nat} (hd : 2 ≤ d)  {I : Nat → Nat → Int32} {E : Nat → Nat → Option Nat} {x1 : Int32} {r0 : Int32 × (Nat → Int32)} (hf : f_X15_trim (I 492) x1 = some r0) : q_Ct g m_X15_trim d 0 0 [] [.ref 492, .int x1] (q_hp (t, r, m, z, N, ext, rx, L) I E) (fun o h' => o = .inl (some (.int r0.1)) ∧ h' = q_hp (t, r, m, z, N, ext, rx, L) (q_ws I [(492, r0.2)]) (q_ws E [])) := by
  rw [f_X15_trim] at hf
  refine q_Ct_of ok_X15_trim (Nat.le_of_ble_eq_true rfl) ?_ _ rfl rfl
  change q_J g m_X15_trim d 0 0 _ [] _ 0 0 (q_kc (t, r, m, z, N, ext, rx, L) I E 0 [some (.ref 492), some (.int x1)] [] [] [])
  refine q_blk 7 [] (c' := q_kc (t, r, m, z, N, ext, rx, L) I E 7 [some (.ref 492), some (.int x1)] [.int ((q_up (I 492) 0 (0 : Int32)) 2), .int (0 : Int32), .int x1] [(492, (q_up (I 492) 0 (0 : Int32)))] []) ok_X15_trim rfl q_cn ?_
  obtain ⟨r1, hr1, hf⟩ := q_bd hf
  refine q_kS (M2 := m_X15_isIn) (As := [.int x1, .int (0 : Int32), .int ((q_up (I 492) 0 (0 : Int32)) 2)]) (v2 := some (.int (q_bz r1))) ok_X15_trim ok_X15_isIn cs_X15_isIn (ct_X15_isIn (d := 1) (Nat.le_refl _) hr1) rfl rfl (Or.inl rfl) (Nat.le_trans (Nat.le_of_ble_eq_true rfl) hd) (Nat.le_of_ble_eq_true rfl) (Nat.le_of_ble_eq_true rfl) (Nat.le_of_ble_eq_true rfl) (fun x hx => absurd hx List.not_mem_nil) (q_nmL0 _) (q_nmS0 _) rfl (pos' := 8) (st' := [.int (q_bz r1)]) (lI' := [(492, (q_up (I 492) 0 (0 : Int32)))]) (lE' := []) rfl rfl rfl rfl ?_
  refine q_blf 0 [] (a := q_kc (t, r, m, z, N, ext, rx, L) I E 13 [some (.ref 492), some (.int x1)] [] [(492, (q_up (I 492) 0 (0 : Int32)))] []) (b := q_kc (t, r, m, z, N, ext, rx, L) I E 9 [some (.ref 492), some (.int x1)] [] [(492, (q_up (I 492) 0 (0 : Int32)))] []) (P := ¬ (q_bz r1) = 0) ok_X15_trim rfl q_cn (fun h2 => ?_) (fun h2 => ?_)
  · have hf := q_ip h2 hf
    refine q_blk 4 [] (c' := q_kc (t, r, m, z, N, ext, rx, L) I E 17 [some (.ref 492), some (.int x1)] [.int x1] [(492, (q_up (q_up (I 492) 0 (0 : Int32)) 2 x1))] []) ok_X15_trim rfl q_cn ?_
    cases hf
    exact q_kri ok_X15_trim rfl rfl rfl (Nat.le_of_ble_eq_true rfl) (Nat.le_of_ble_eq_true rfl) ⟨rfl, q_hpe (q_fin [492] rfl) (q_fin [] rfl)⟩
  · have hf := q_in h2 hf
    refine q_blk 2 [] (c' := q_kc (t, r, m, z, N, ext, rx, L) I E 11 [some (.ref 492), some (.int x1)] [.int (1 : Int32), .ref 492] [(492, (q_up (I 492) 0 (0 : Int32)))] []) ok_X15_trim rfl q_cn ?_
    obtain ⟨r3, hr3, hf⟩ := q_bd hf
    refine q_kV (M2 := m_X15_no) (As := [.int (1 : Int32)]) (b := 492) (v2 := some (.int r3.1)) ok_X15_trim ok_X15_no cv_X15_no (ct_X15_no_492 (d := 1) (Nat.le_refl _) hr3) rfl rfl (Or.inl rfl) rfl rfl rfl rfl (Nat.le_trans (Nat.le_of_ble_eq_true rfl) hd) (Nat.le_of_ble_eq_true rfl) (Nat.le_of_ble_eq_true rfl) (Nat.le_of_ble_eq_true rfl) (fun x hx => absurd hx List.not_mem_nil) (q_nmL0 _) (q_nmS0 _) rfl (pos' := 12) (st' := [.int r3.1]) (lI' := [(492, r3.2)]) (lE' := []) rfl rfl rfl rfl ?_
    cases hf
    exact q_kri ok_X15_trim rfl rfl rfl (Nat.le_of_ble_eq_true rfl) (Nat.le_of_ble_eq_true rfl) ⟨rfl, q_hpe (q_fin [492] rfl) (q_fin [] rfl)⟩
set_option maxHeartbeats 4000000 in
theorem ct_X15_ok_492 {g : q_G} {t : Nat} {r : Nat} {m : Nat} {z : Nat} {N : Nat} {ext : Nat → q_Sh} {rx : Nat → Nat → Option Nat} {L : Nat → Nat → Int64} {d : Nat} (hd : 1 ≤ d)  {I : Nat → Nat → Int32} {E : Nat → Nat → Option Nat} {x1 : Int32} {r0 : Int32 × (Nat → Int32)} (hf : f_X15_ok (I 492) x1 = some r0) : q_Ct g m_X15_ok d 0 0 [] [.ref 492, .int x1] (q_hp (t, r, m, z, N, ext, rx, L) I E) (fun o h' => o = .inl (some (.int r0.1)) ∧ h' = q_hp (t, r, m, z, N, ext, rx, L) (q_ws I [(492, r0.2)]) (q_ws E [])) := by
  rw [f_X15_ok] at hf
  refine q_Ct_of ok_X15_ok (Nat.le_of_ble_eq_true rfl) ?_ _ rfl rfl
  change q_J g m_X15_ok d 0 0 _ [] _ 0 0 (q_kc (t, r, m, z, N, ext, rx, L) I E 0 [some (.ref 492), some (.int x1)] [] [] [])
  refine q_blk 4 [] (c' := q_kc (t, r, m, z, N, ext, rx, L) I E 4 [some (.ref 492), some (.int x1)] [.int x1] [(492, (q_up (I 492) 0 (0 : Int32)))] []) ok_X15_ok rfl q_cn ?_
  cases hf
  exact q_kri ok_X15_ok rfl rfl rfl (Nat.le_of_ble_eq_true rfl) (Nat.le_of_ble_eq_true rfl) ⟨rfl, q_hpe (q_fin [492] rfl) (q_fin [] rfl)⟩
set_option maxHeartbeats 4000000 in
theorem ct_X15_errorAt_492 {g : q_G} {t : Nat} {r : Nat} {m : Nat} {z : Nat} {N : Nat} {ext : Nat → q_Sh} {rx : Nat → Nat → Option Nat} {L : Nat → Nat → Int64} {d : Nat} (hd : 2 ≤ d)  {I : Nat → Nat → Int32} {E : Nat → Nat → Option Nat} {r0 : Int32 × (Nat → Int32)} (hf : f_X15_errorAt (I 492) = some r0) : q_Ct g m_X15_errorAt d 0 0 [] [.ref 492] (q_hp (t, r, m, z, N, ext, rx, L) I E) (fun o h' => o = .inl (some (.int r0.1)) ∧ h' = q_hp (t, r, m, z, N, ext, rx, L) (q_ws I [(492, r0.2)]) (q_ws E [])) := by
  rw [f_X15_errorAt] at hf
  refine q_Ct_of ok_X15_errorAt (Nat.le_of_ble_eq_true rfl) ?_ _ rfl rfl
  change q_J g m_X15_errorAt d 0 0 _ [] _ 0 0 (q_kc (t, r, m, z, N, ext, rx, L) I E 0 [some (.ref 492)] [] [] [])
  refine q_blk 3 [] (c' := q_kc (t, r, m, z, N, ext, rx, L) I E 3 [some (.ref 492)] [.int ((I 492) 3), .ref 492] [] []) ok_X15_errorAt rfl q_cn ?_
  obtain ⟨r1, hr1, hf⟩ := q_bd hf
  refine q_kV (M2 := m_X15_ok) (As := [.int ((I 492) 3)]) (b := 492) (v2 := some (.int r1.1)) ok_X15_errorAt ok_X15_ok cv_X15_ok (ct_X15_ok_492 (d := 1) (Nat.le_refl _) hr1) rfl rfl (Or.inl rfl) rfl rfl rfl rfl (Nat.le_trans (Nat.le_of_ble_eq_true rfl) hd) (Nat.le_of_ble_eq_true rfl) (Nat.le_of_ble_eq_true rfl) (Nat.le_of_ble_eq_true rfl) (fun x hx => absurd hx List.not_mem_nil) (q_nmL0 _) (q_nmS0 _) rfl (pos' := 4) (st' := [.int r1.1]) (lI' := [(492, r1.2)]) (lE' := []) rfl rfl rfl rfl ?_
  cases hf
  exact q_kri ok_X15_errorAt rfl rfl rfl (Nat.le_of_ble_eq_true rfl) (Nat.le_of_ble_eq_true rfl) ⟨rfl, q_hpe (q_fin [492] rfl) (q_fin [] rfl)⟩
set_option maxHeartbeats 4000000 in
theorem ct_X15_hooks_492 {g : q_G} {t : Nat} {r : Nat} {m : Nat} {z : Nat} {N : Nat} {ext : Nat → q_Sh} {rx : Nat → Nat → Option Nat} {L : Nat → Nat → Int64} {d : Nat} (hd : 2 ≤ d)  {I : Nat → Nat → Int32} {E : Nat → Nat → Option Nat} {r0 : Int32 × (Nat → Int32)} (hf : f_X15_hooks (I 492) (I 499) = some r0) : q_Ct g m_X15_hooks d 0 0 [] [.ref 492] (q_hp (t, r, m, z, N, ext, rx, L) I E) (fun o h' => o = .inl (some (.int r0.1)) ∧ h' = q_hp (t, r, m, z, N, ext, rx, L) (q_ws I [(492, r0.2)]) (q_ws E [])) := by
  rw [f_X15_hooks] at hf
  refine q_Ct_of ok_X15_hooks (Nat.le_of_ble_eq_true rfl) ?_ _ rfl rfl
  change q_J g m_X15_hooks d 0 0 _ [] _ 0 0 (q_kc (t, r, m, z, N, ext, rx, L) I E 0 [some (.ref 492)] [] [] [])
  refine q_blk 4 [] (c' := q_kc (t, r, m, z, N, ext, rx, L) I E 4 [some (.ref 492)] [.int ((I 499) 0), .ref 492] [] []) ok_X15_hooks rfl q_cn ?_
  obtain ⟨r1, hr1, hf⟩ := q_bd hf
  refine q_kV (M2 := m_X15_ok) (As := [.int ((I 499) 0)]) (b := 492) (v2 := some (.int r1.1)) ok_X15_hooks ok_X15_ok cv_X15_ok (ct_X15_ok_492 (d := 1) (Nat.le_refl _) hr1) rfl rfl (Or.inl rfl) rfl rfl rfl rfl (Nat.le_trans (Nat.le_of_ble_eq_true rfl) hd) (Nat.le_of_ble_eq_true rfl) (Nat.le_of_ble_eq_true rfl) (Nat.le_of_ble_eq_true rfl) (fun x hx => absurd hx List.not_mem_nil) (q_nmL0 _) (q_nmS0 _) rfl (pos' := 5) (st' := [.int r1.1]) (lI' := [(492, r1.2)]) (lE' := []) rfl rfl rfl rfl ?_
  cases hf
  exact q_kri ok_X15_hooks rfl rfl rfl (Nat.le_of_ble_eq_true rfl) (Nat.le_of_ble_eq_true rfl) ⟨rfl, q_hpe (q_fin [492] rfl) (q_fin [] rfl)⟩
set_option maxHeartbeats 4000000 in
theorem ct_X15_steps_492 {g : q_G} {t : Nat} {r : Nat} {m : Nat} {z : Nat} {N : Nat} {ext : Nat → q_Sh} {rx : Nat → Nat → Option Nat} {L : Nat → Nat → Int64} {d : Nat} (hd : 2 ≤ d)  {I : Nat → Nat → Int32} {E : Nat → Nat → Option Nat} {r0 : Int32 × (Nat → Int32)} (hf : f_X15_steps (I 492) (I 499) = some r0) : q_Ct g m_X15_steps d 0 0 [] [.ref 492] (q_hp (t, r, m, z, N, ext, rx, L) I E) (fun o h' => o = .inl (some (.int r0.1)) ∧ h' = q_hp (t, r, m, z, N, ext, rx, L) (q_ws I [(492, r0.2)]) (q_ws E [])) := by
  rw [f_X15_steps] at hf
  refine q_Ct_of ok_X15_steps (Nat.le_of_ble_eq_true rfl) ?_ _ rfl rfl
  change q_J g m_X15_steps d 0 0 _ [] _ 0 0 (q_kc (t, r, m, z, N, ext, rx, L) I E 0 [some (.ref 492)] [] [] [])
  refine q_blk 4 [] (c' := q_kc (t, r, m, z, N, ext, rx, L) I E 4 [some (.ref 492)] [.int ((I 499) 4), .ref 492] [] []) ok_X15_steps rfl q_cn ?_
  obtain ⟨r1, hr1, hf⟩ := q_bd hf
  refine q_kV (M2 := m_X15_ok) (As := [.int ((I 499) 4)]) (b := 492) (v2 := some (.int r1.1)) ok_X15_steps ok_X15_ok cv_X15_ok (ct_X15_ok_492 (d := 1) (Nat.le_refl _) hr1) rfl rfl (Or.inl rfl) rfl rfl rfl rfl (Nat.le_trans (Nat.le_of_ble_eq_true rfl) hd) (Nat.le_of_ble_eq_true rfl) (Nat.le_of_ble_eq_true rfl) (Nat.le_of_ble_eq_true rfl) (fun x hx => absurd hx List.not_mem_nil) (q_nmL0 _) (q_nmS0 _) rfl (pos' := 5) (st' := [.int r1.1]) (lI' := [(492, r1.2)]) (lE' := []) rfl rfl rfl rfl ?_
  cases hf
  exact q_kri ok_X15_steps rfl rfl rfl (Nat.le_of_ble_eq_true rfl) (Nat.le_of_ble_eq_true rfl) ⟨rfl, q_hpe (q_fin [492] rfl) (q_fin [] rfl)⟩
set_option maxHeartbeats 4000000 in
theorem ct_X15_placesOfHalf_492 {g : q_G} {t : Nat} {r : Nat} {m : Nat} {z : Nat} {N : Nat} {ext : Nat → q_Sh} {rx : Nat → Nat → Option Nat} {L : Nat → Nat → Int64} {d : Nat} (hd : 2 ≤ d)  {I : Nat → Nat → Int32} {E : Nat → Nat → Option Nat} {r0 : Int32 × (Nat → Int32)} (hf : f_X15_placesOfHalf (I 492) (I 499) = some r0) : q_Ct g m_X15_placesOfHalf d 0 0 [] [.ref 492] (q_hp (t, r, m, z, N, ext, rx, L) I E) (fun o h' => o = .inl (some (.int r0.1)) ∧ h' = q_hp (t, r, m, z, N, ext, rx, L) (q_ws I [(492, r0.2)]) (q_ws E [])) := by
  rw [f_X15_placesOfHalf] at hf
  refine q_Ct_of ok_X15_placesOfHalf (Nat.le_of_ble_eq_true rfl) ?_ _ rfl rfl
  change q_J g m_X15_placesOfHalf d 0 0 _ [] _ 0 0 (q_kc (t, r, m, z, N, ext, rx, L) I E 0 [some (.ref 492)] [] [] [])
  refine q_blk 4 [] (c' := q_kc (t, r, m, z, N, ext, rx, L) I E 4 [some (.ref 492)] [.int ((I 499) 1), .ref 492] [] []) ok_X15_placesOfHalf rfl q_cn ?_
  obtain ⟨r1, hr1, hf⟩ := q_bd hf
  refine q_kV (M2 := m_X15_ok) (As := [.int ((I 499) 1)]) (b := 492) (v2 := some (.int r1.1)) ok_X15_placesOfHalf ok_X15_ok cv_X15_ok (ct_X15_ok_492 (d := 1) (Nat.le_refl _) hr1) rfl rfl (Or.inl rfl) rfl rfl rfl rfl (Nat.le_trans (Nat.le_of_ble_eq_true rfl) hd) (Nat.le_of_ble_eq_true rfl) (Nat.le_of_ble_eq_true rfl) (Nat.le_of_ble_eq_true rfl) (fun x hx => absurd hx List.not_mem_nil) (q_nmL0 _) (q_nmS0 _) rfl (pos' := 5) (st' := [.int r1.1]) (lI' := [(492, r1.2)]) (lE' := []) rfl rfl rfl rfl ?_
  cases hf
  exact q_kri ok_X15_placesOfHalf rfl rfl rfl (Nat.le_of_ble_eq_true rfl) (Nat.le_of_ble_eq_true rfl) ⟨rfl, q_hpe (q_fin [492] rfl) (q_fin [] rfl)⟩
set_option maxHeartbeats 4000000 in
theorem ct_X15_stepsGoneBy_492 {g : q_G} {t : Nat} {r : Nat} {m : Nat} {z : Nat} {N : Nat} {ext : Nat → q_Sh} {rx : Nat → Nat → Option Nat} {L : Nat → Nat → Int64} {d : Nat} (hd : 2 ≤ d)  {I : Nat → Nat → Int32} {E : Nat → Nat → Option Nat} {r0 : Int32 × (Nat → Int32)} (hf : f_X15_stepsGoneBy (I 492) (I 512) = some r0) : q_Ct g m_X15_stepsGoneBy d 0 0 [] [.ref 492] (q_hp (t, r, m, z, N, ext, rx, L) I E) (fun o h' => o = .inl (some (.int r0.1)) ∧ h' = q_hp (t, r, m, z, N, ext, rx, L) (q_ws I [(492, r0.2)]) (q_ws E [])) := by
  rw [f_X15_stepsGoneBy] at hf
  refine q_Ct_of ok_X15_stepsGoneBy (Nat.le_of_ble_eq_true rfl) ?_ _ rfl rfl
  change q_J g m_X15_stepsGoneBy d 0 0 _ [] _ 0 0 (q_kc (t, r, m, z, N, ext, rx, L) I E 0 [some (.ref 492)] [] [] [])
  refine q_blk 4 [] (c' := q_kc (t, r, m, z, N, ext, rx, L) I E 4 [some (.ref 492)] [.int ((I 512) 0), .ref 492] [] []) ok_X15_stepsGoneBy rfl q_cn ?_
  obtain ⟨r1, hr1, hf⟩ := q_bd hf
  refine q_kV (M2 := m_X15_ok) (As := [.int ((I 512) 0)]) (b := 492) (v2 := some (.int r1.1)) ok_X15_stepsGoneBy ok_X15_ok cv_X15_ok (ct_X15_ok_492 (d := 1) (Nat.le_refl _) hr1) rfl rfl (Or.inl rfl) rfl rfl rfl rfl (Nat.le_trans (Nat.le_of_ble_eq_true rfl) hd) (Nat.le_of_ble_eq_true rfl) (Nat.le_of_ble_eq_true rfl) (Nat.le_of_ble_eq_true rfl) (fun x hx => absurd hx List.not_mem_nil) (q_nmL0 _) (q_nmS0 _) rfl (pos' := 5) (st' := [.int r1.1]) (lI' := [(492, r1.2)]) (lE' := []) rfl rfl rfl rfl ?_
  cases hf
  exact q_kri ok_X15_stepsGoneBy rfl rfl rfl (Nat.le_of_ble_eq_true rfl) (Nat.le_of_ble_eq_true rfl) ⟨rfl, q_hpe (q_fin [492] rfl) (q_fin [] rfl)⟩
set_option maxHeartbeats 4000000 in
theorem ct_X15_stepsRefused_492 {g : q_G} {t : Nat} {r : Nat} {m : Nat} {z : Nat} {N : Nat} {ext : Nat → q_Sh} {rx : Nat → Nat → Option Nat} {L : Nat → Nat → Int64} {d : Nat} (hd : 2 ≤ d)  {I : Nat → Nat → Int32} {E : Nat → Nat → Option Nat} {r0 : Int32 × (Nat → Int32)} (hf : f_X15_stepsRefused (I 492) (I 512) = some r0) : q_Ct g m_X15_stepsRefused d 0 0 [] [.ref 492] (q_hp (t, r, m, z, N, ext, rx, L) I E) (fun o h' => o = .inl (some (.int r0.1)) ∧ h' = q_hp (t, r, m, z, N, ext, rx, L) (q_ws I [(492, r0.2)]) (q_ws E [])) := by
  rw [f_X15_stepsRefused] at hf
  refine q_Ct_of ok_X15_stepsRefused (Nat.le_of_ble_eq_true rfl) ?_ _ rfl rfl
  change q_J g m_X15_stepsRefused d 0 0 _ [] _ 0 0 (q_kc (t, r, m, z, N, ext, rx, L) I E 0 [some (.ref 492)] [] [] [])
  refine q_blk 4 [] (c' := q_kc (t, r, m, z, N, ext, rx, L) I E 4 [some (.ref 492)] [.int ((I 512) 1), .ref 492] [] []) ok_X15_stepsRefused rfl q_cn ?_
  obtain ⟨r1, hr1, hf⟩ := q_bd hf
  refine q_kV (M2 := m_X15_ok) (As := [.int ((I 512) 1)]) (b := 492) (v2 := some (.int r1.1)) ok_X15_stepsRefused ok_X15_ok cv_X15_ok (ct_X15_ok_492 (d := 1) (Nat.le_refl _) hr1) rfl rfl (Or.inl rfl) rfl rfl rfl rfl (Nat.le_trans (Nat.le_of_ble_eq_true rfl) hd) (Nat.le_of_ble_eq_true rfl) (Nat.le_of_ble_eq_true rfl) (Nat.le_of_ble_eq_true rfl) (fun x hx => absurd hx List.not_mem_nil) (q_nmL0 _) (q_nmS0 _) rfl (pos' := 5) (st' := [.int r1.1]) (lI' := [(492, r1.2)]) (lE' := []) rfl rfl rfl rfl ?_
  cases hf
  exact q_kri ok_X15_stepsRefused rfl rfl rfl (Nat.le_of_ble_eq_true rfl) (Nat.le_of_ble_eq_true rfl) ⟨rfl, q_hpe (q_fin [492] rfl) (q_fin [] rfl)⟩
set_option maxHeartbeats 4000000 in
theorem ct_X15_workingHalf_492 {g : q_G} {t : Nat} {r : Nat} {m : Nat} {z : Nat} {N : Nat} {ext : Nat → q_Sh} {rx : Nat → Nat → Option Nat} {L : Nat → Nat → Int64} {d : Nat} (hd : 2 ≤ d)  {I : Nat → Nat → Int32} {E : Nat → Nat → Option Nat} {r0 : Int32 × (Nat → Int32)} (hf : f_X15_workingHalf (I 492) (I 512) = some r0) : q_Ct g m_X15_workingHalf d 0 0 [] [.ref 492] (q_hp (t, r, m, z, N, ext, rx, L) I E) (fun o h' => o = .inl (some (.int r0.1)) ∧ h' = q_hp (t, r, m, z, N, ext, rx, L) (q_ws I [(492, r0.2)]) (q_ws E [])) := by
  rw [f_X15_workingHalf] at hf
  refine q_Ct_of ok_X15_workingHalf (Nat.le_of_ble_eq_true rfl) ?_ _ rfl rfl
  change q_J g m_X15_workingHalf d 0 0 _ [] _ 0 0 (q_kc (t, r, m, z, N, ext, rx, L) I E 0 [some (.ref 492)] [] [] [])
  refine q_blk 4 [] (c' := q_kc (t, r, m, z, N, ext, rx, L) I E 4 [some (.ref 492)] [.int ((I 512) 2), .ref 492] [] []) ok_X15_workingHalf rfl q_cn ?_
  obtain ⟨r1, hr1, hf⟩ := q_bd hf
  refine q_kV (M2 := m_X15_ok) (As := [.int ((I 512) 2)]) (b := 492) (v2 := some (.int r1.1)) ok_X15_workingHalf ok_X15_ok cv_X15_ok (ct_X15_ok_492 (d := 1) (Nat.le_refl _) hr1) rfl rfl (Or.inl rfl) rfl rfl rfl rfl (Nat.le_trans (Nat.le_of_ble_eq_true rfl) hd) (Nat.le_of_ble_eq_true rfl) (Nat.le_of_ble_eq_true rfl) (Nat.le_of_ble_eq_true rfl) (fun x hx => absurd hx List.not_mem_nil) (q_nmL0 _) (q_nmS0 _) rfl (pos' := 5) (st' := [.int r1.1]) (lI' := [(492, r1.2)]) (lE' := []) rfl rfl rfl rfl ?_
  cases hf
  exact q_kri ok_X15_workingHalf rfl rfl rfl (Nat.le_of_ble_eq_true rfl) (Nat.le_of_ble_eq_true rfl) ⟨rfl, q_hpe (q_fin [492] rfl) (q_fin [] rfl)⟩
set_option maxHeartbeats 4000000 in
theorem lp_X14_used_L4_512 {g : q_G} {d mc ms : Nat} {h0 : q_H} {Q : (Option Value ⊕ String) → q_H → Prop} {k n : Nat} {t : Nat} {r : Nat} {m : Nat} {z : Nat} {N : Nat} {ext : Nat → q_Sh} {rx : Nat → Nat → Option Nat} {L : Nat → Nat → Int64} (hd : 1 ≤ d) (hk : k ≤ mc) (hn : n ≤ ms)  {v1 : Int32} : ∀ (fu : Nat) {I : Nat → Nat → Int32} {E : Nat → Nat → Option Nat} {v2 : Int32} {v3 : Int32} {r0 : Int32} (hf : f_X14_used_L4 (I 514) (I 516) v1 fu v2 v3 = some r0) (hK0 : q_J g m_X14_used d mc ms h0 [] Q k n (q_kc (t, r, m, z, N, ext, rx, L) I E 24 [none, none, some (.int r0), none] [] [] [])), q_J g m_X14_used d mc ms h0 [] Q k n (4, [some (.ref 512), some (.int v1), some (.int v2), some (.int v3)], [], q_hp (t, r, m, z, N, ext, rx, L) I E) := by
  intro fu
  induction fu with
  | zero =>
    intro I E v2 v3 r0 hf hK0
    rw [f_X14_used_L4] at hf
    cases hf
  | succ fu ih =>
    intro I E v2 v3 r0 hf hK0
    rw [f_X14_used_L4] at hf
    change q_J g m_X14_used d mc ms h0 [] Q k n (q_kc (t, r, m, z, N, ext, rx, L) I E 4 [some (.ref 512), some (.int v1), some (.int v2), some (.int v3)] [] [] [])
    refine q_blf 2 [] (a := q_kc (t, r, m, z, N, ext, rx, L) I E 24 [some (.ref 512), some (.int v1), some (.int v2), some (.int v3)] [] [] []) (b := q_kc (t, r, m, z, N, ext, rx, L) I E 7 [some (.ref 512), some (.int v1), some (.int v2), some (.int v3)] [] [] []) (P := (136 : Int32) ≤ v3) ok_X14_used rfl q_cn (fun h1 => ?_) (fun h1 => ?_)
    · have hf := q_ip h1 hf
      refine q_less (ls' := [none, none, some (.int v2), none]) (q_sb1 (q_sb1 (q_sb2 (q_sb1 q_sb0)))) ?_
      cases hf
      exact q_Jpad [] [] rfl rfl hK0
    · have hf := q_in h1 hf
      obtain ⟨j2, hj2, hf⟩ := q_bd hf
      refine q_blf 6 [j2] (a := q_kc (t, r, m, z, N, ext, rx, L) I E 19 [some (.ref 512), some (.int v1), some (.int v2), some (.int v3)] [.int v2] [] []) (b := q_kc (t, r, m, z, N, ext, rx, L) I E 14 [some (.ref 512), some (.int v1), some (.int v2), some (.int v3)] [.int v2] [] []) (P := ¬ ((I 514) j2) = v1) ok_X14_used rfl (q_cc hj2 q_cn) (fun h3 => ?_) (fun h3 => ?_)
      · have hf := q_ip h3 hf
        refine q_blk 5 [] (c' := q_kc (t, r, m, z, N, ext, rx, L) I E 4 [some (.ref 512), some (.int v1), some (.int (v2 + (0 : Int32))), some (.int (v3 + 1))] [] [] []) ok_X14_used rfl q_cn ?_
        exact ih (I := q_ws I []) (E := q_ws E []) hf (q_Jmrg rfl rfl hK0)
      · have hf := q_in h3 hf
        obtain ⟨j4, hj4, hf⟩ := q_bd hf
        refine q_blk 9 [j4] (c' := q_kc (t, r, m, z, N, ext, rx, L) I E 4 [some (.ref 512), some (.int v1), some (.int (v2 + ((I 516) j4))), some (.int (v3 + 1))] [] [] []) ok_X14_used rfl (q_cc hj4 q_cn) ?_
        exact ih (I := q_ws I []) (E := q_ws E []) hf (q_Jmrg rfl rfl hK0)
set_option maxHeartbeats 4000000 in
theorem ct_X14_used_512 {g : q_G} {t : Nat} {r : Nat} {m : Nat} {z : Nat} {N : Nat} {ext : Nat → q_Sh} {rx : Nat → Nat → Option Nat} {L : Nat → Nat → Int64} {d : Nat} (hd : 1 ≤ d)  {I : Nat → Nat → Int32} {E : Nat → Nat → Option Nat} {x1 : Int32} {r0 : Int32} (hf : f_X14_used (I 514) (I 516) x1 = some r0) : q_Ct g m_X14_used d 0 0 [] [.ref 512, .int x1] (q_hp (t, r, m, z, N, ext, rx, L) I E) (fun o h' => o = .inl (some (.int r0)) ∧ h' = q_hp (t, r, m, z, N, ext, rx, L) (q_ws I []) (q_ws E [])) := by
  rw [f_X14_used] at hf
  refine q_Ct_of ok_X14_used (Nat.le_of_ble_eq_true rfl) ?_ _ rfl rfl
  change q_J g m_X14_used d 0 0 _ [] _ 0 0 (q_kc (t, r, m, z, N, ext, rx, L) I E 0 [some (.ref 512), some (.int x1), none, none] [] [] [])
  refine q_blk 4 [] (c' := q_kc (t, r, m, z, N, ext, rx, L) I E 4 [some (.ref 512), some (.int x1), some (.int (0 : Int32)), some (.int (0 : Int32))] [] [] []) ok_X14_used rfl q_cn ?_
  obtain ⟨r5, hr5, hf⟩ := q_bd hf
  refine lp_X14_used_L4_512 (I := q_ws I []) (E := q_ws E []) hd (Nat.le_of_ble_eq_true rfl) (Nat.le_of_ble_eq_true rfl) 4096 hr5 ?_
  refine q_Jmrg (lI' := []) (lE' := []) rfl rfl ?_
  refine q_blk 1 [] (c' := q_kc (t, r, m, z, N, ext, rx, L) I E 25 [none, none, some (.int r5), none] [.int r5] [] []) ok_X14_used rfl q_cn ?_
  cases hf
  exact q_kri ok_X14_used rfl rfl rfl (Nat.le_of_ble_eq_true rfl) (Nat.le_of_ble_eq_true rfl) ⟨rfl, q_hpe (q_fin [] rfl) (q_fin [] rfl)⟩
set_option maxHeartbeats 4000000 in
theorem ct_X15_usedPlaces_492 {g : q_G} {t : Nat} {r : Nat} {m : Nat} {z : Nat} {N : Nat} {ext : Nat → q_Sh} {rx : Nat → Nat → Option Nat} {L : Nat → Nat → Int64} {d : Nat} (hd : 2 ≤ d)  {I : Nat → Nat → Int32} {E : Nat → Nat → Option Nat} {r0 : Int32 × (Nat → Int32)} (hf : f_X15_usedPlaces (I 492) (I 514) (I 516) = some r0) : q_Ct g m_X15_usedPlaces d 0 0 [] [.ref 492] (q_hp (t, r, m, z, N, ext, rx, L) I E) (fun o h' => o = .inl (some (.int r0.1)) ∧ h' = q_hp (t, r, m, z, N, ext, rx, L) (q_ws I [(492, r0.2)]) (q_ws E [])) := by
  rw [f_X15_usedPlaces] at hf
  refine q_Ct_of ok_X15_usedPlaces (Nat.le_of_ble_eq_true rfl) ?_ _ rfl rfl
  change q_J g m_X15_usedPlaces d 0 0 _ [] _ 0 0 (q_kc (t, r, m, z, N, ext, rx, L) I E 0 [some (.ref 492)] [] [] [])
  refine q_blk 4 [] (c' := q_kc (t, r, m, z, N, ext, rx, L) I E 4 [some (.ref 492)] [.int (1 : Int32), .ref 512, .ref 492] [] []) ok_X15_usedPlaces rfl q_cn ?_
  obtain ⟨r1, hr1, hf⟩ := q_bd hf
  refine q_kV (M2 := m_X14_used) (As := [.int (1 : Int32)]) (b := 512) (v2 := some (.int r1)) ok_X15_usedPlaces ok_X14_used cv_X14_used (ct_X14_used_512 (d := 1) (Nat.le_refl _) hr1) rfl rfl (Or.inl rfl) rfl rfl rfl rfl (Nat.le_trans (Nat.le_of_ble_eq_true rfl) hd) (Nat.le_of_ble_eq_true rfl) (Nat.le_of_ble_eq_true rfl) (Nat.le_of_ble_eq_true rfl) (fun x hx => absurd hx List.not_mem_nil) (q_nmL0 _) (q_nmS0 _) rfl (pos' := 5) (st' := [.int r1, .ref 492]) (lI' := []) (lE' := []) rfl rfl rfl rfl ?_
  obtain ⟨r2, hr2, hf⟩ := q_bd hf
  refine q_kV (M2 := m_X15_ok) (As := [.int r1]) (b := 492) (v2 := some (.int r2.1)) ok_X15_usedPlaces ok_X15_ok cv_X15_ok (ct_X15_ok_492 (d := 1) (Nat.le_refl _) hr2) rfl rfl (Or.inl rfl) rfl rfl rfl rfl (Nat.le_trans (Nat.le_of_ble_eq_true rfl) hd) (Nat.le_of_ble_eq_true rfl) (Nat.le_of_ble_eq_true rfl) (Nat.le_of_ble_eq_true rfl) (fun x hx => absurd hx List.not_mem_nil) (q_nmL0 _) (q_nmS0 _) rfl (pos' := 6) (st' := [.int r2.1]) (lI' := [(492, r2.2)]) (lE' := []) rfl rfl rfl rfl ?_
  cases hf
  exact q_kri ok_X15_usedPlaces rfl rfl rfl (Nat.le_of_ble_eq_true rfl) (Nat.le_of_ble_eq_true rfl) ⟨rfl, q_hpe (q_fin [492] rfl) (q_fin [] rfl)⟩
set_option maxHeartbeats 4000000 in
theorem ct_X15_usedInLoft_492 {g : q_G} {t : Nat} {r : Nat} {m : Nat} {z : Nat} {N : Nat} {ext : Nat → q_Sh} {rx : Nat → Nat → Option Nat} {L : Nat → Nat → Int64} {d : Nat} (hd : 2 ≤ d)  {I : Nat → Nat → Int32} {E : Nat → Nat → Option Nat} {r0 : Int32 × (Nat → Int32)} (hf : f_X15_usedInLoft (I 492) (I 514) (I 516) = some r0) : q_Ct g m_X15_usedInLoft d 0 0 [] [.ref 492] (q_hp (t, r, m, z, N, ext, rx, L) I E) (fun o h' => o = .inl (some (.int r0.1)) ∧ h' = q_hp (t, r, m, z, N, ext, rx, L) (q_ws I [(492, r0.2)]) (q_ws E [])) := by
  rw [f_X15_usedInLoft] at hf
  refine q_Ct_of ok_X15_usedInLoft (Nat.le_of_ble_eq_true rfl) ?_ _ rfl rfl
  change q_J g m_X15_usedInLoft d 0 0 _ [] _ 0 0 (q_kc (t, r, m, z, N, ext, rx, L) I E 0 [some (.ref 492)] [] [] [])
  refine q_blk 4 [] (c' := q_kc (t, r, m, z, N, ext, rx, L) I E 4 [some (.ref 492)] [.int (2 : Int32), .ref 512, .ref 492] [] []) ok_X15_usedInLoft rfl q_cn ?_
  obtain ⟨r1, hr1, hf⟩ := q_bd hf
  refine q_kV (M2 := m_X14_used) (As := [.int (2 : Int32)]) (b := 512) (v2 := some (.int r1)) ok_X15_usedInLoft ok_X14_used cv_X14_used (ct_X14_used_512 (d := 1) (Nat.le_refl _) hr1) rfl rfl (Or.inl rfl) rfl rfl rfl rfl (Nat.le_trans (Nat.le_of_ble_eq_true rfl) hd) (Nat.le_of_ble_eq_true rfl) (Nat.le_of_ble_eq_true rfl) (Nat.le_of_ble_eq_true rfl) (fun x hx => absurd hx List.not_mem_nil) (q_nmL0 _) (q_nmS0 _) rfl (pos' := 5) (st' := [.int r1, .ref 492]) (lI' := []) (lE' := []) rfl rfl rfl rfl ?_
  obtain ⟨r2, hr2, hf⟩ := q_bd hf
  refine q_kV (M2 := m_X15_ok) (As := [.int r1]) (b := 492) (v2 := some (.int r2.1)) ok_X15_usedInLoft ok_X15_ok cv_X15_ok (ct_X15_ok_492 (d := 1) (Nat.le_refl _) hr2) rfl rfl (Or.inl rfl) rfl rfl rfl rfl (Nat.le_trans (Nat.le_of_ble_eq_true rfl) hd) (Nat.le_of_ble_eq_true rfl) (Nat.le_of_ble_eq_true rfl) (Nat.le_of_ble_eq_true rfl) (fun x hx => absurd hx List.not_mem_nil) (q_nmL0 _) (q_nmS0 _) rfl (pos' := 6) (st' := [.int r2.1]) (lI' := [(492, r2.2)]) (lE' := []) rfl rfl rfl rfl ?_
  cases hf
  exact q_kri ok_X15_usedInLoft rfl rfl rfl (Nat.le_of_ble_eq_true rfl) (Nat.le_of_ble_eq_true rfl) ⟨rfl, q_hpe (q_fin [492] rfl) (q_fin [] rfl)⟩
set_option maxHeartbeats 4000000 in
theorem lp_X14_at_L2_512 {g : q_G} {d mc ms : Nat} {h0 : q_H} {Q : (Option Value ⊕ String) → q_H → Prop} {k n : Nat} {t : Nat} {r : Nat} {m : Nat} {z : Nat} {N : Nat} {ext : Nat → q_Sh} {rx : Nat → Nat → Option Nat} {L : Nat → Nat → Int64} (hd : 1 ≤ d) (hk : k ≤ mc) (hn : n ≤ ms)  {v1 : Int32} {v2 : Int32} : ∀ (fu : Nat) {I : Nat → Nat → Int32} {E : Nat → Nat → Option Nat} {v3 : Int32} {r0 : Nat × Int32} (hf : f_X14_at_L2 (I 514) (I 515) (I 516) v1 v2 fu v3 = some r0) (hK0 : r0.1 = 0 → q_J g m_X14_at d mc ms h0 [] Q k n (q_kc (t, r, m, z, N, ext, rx, L) I E 32 [none, none, none, none] [] [] [])) (hK1 : r0.1 = 1 → q_J g m_X14_at d mc ms h0 [] Q k n (q_kc (t, r, m, z, N, ext, rx, L) I E 28 [none, none, none, some (.int r0.2)] [] [] [])), q_J g m_X14_at d mc ms h0 [] Q k n (2, [some (.ref 512), some (.int v1), some (.int v2), some (.int v3)], [], q_hp (t, r, m, z, N, ext, rx, L) I E) := by
  intro fu
  induction fu with
  | zero =>
    intro I E v3 r0 hf hK0 hK1
    rw [f_X14_at_L2] at hf
    cases hf
  | succ fu ih =>
    intro I E v3 r0 hf hK0 hK1
    rw [f_X14_at_L2] at hf
    change q_J g m_X14_at d mc ms h0 [] Q k n (q_kc (t, r, m, z, N, ext, rx, L) I E 2 [some (.ref 512), some (.int v1), some (.int v2), some (.int v3)] [] [] [])
    refine q_blf 2 [] (a := q_kc (t, r, m, z, N, ext, rx, L) I E 32 [some (.ref 512), some (.int v1), some (.int v2), some (.int v3)] [] [] []) (b := q_kc (t, r, m, z, N, ext, rx, L) I E 5 [some (.ref 512), some (.int v1), some (.int v2), some (.int v3)] [] [] []) (P := (136 : Int32) ≤ v3) ok_X14_at rfl q_cn (fun h1 => ?_) (fun h1 => ?_)
    · have hf := q_ip h1 hf
      refine q_less (ls' := [none, none, none, none]) (q_sb1 (q_sb1 (q_sb1 (q_sb1 q_sb0)))) ?_
      cases hf
      exact q_Jpad [] [] rfl rfl (hK0 rfl)
    · have hf := q_in h1 hf
      obtain ⟨j2, hj2, hf⟩ := q_bd hf
      refine q_blf 5 [j2] (a := q_kc (t, r, m, z, N, ext, rx, L) I E 30 [some (.ref 512), some (.int v1), some (.int v2), some (.int v3)] [] [] []) (b := q_kc (t, r, m, z, N, ext, rx, L) I E 11 [some (.ref 512), some (.int v1), some (.int v2), some (.int v3)] [] [] []) (P := ¬ ((I 514) j2) = v1) ok_X14_at rfl (q_cc hj2 q_cn) (fun h3 => ?_) (fun h3 => ?_)
      · have hf := q_ip h3 hf
        refine q_blk 2 [] (c' := q_kc (t, r, m, z, N, ext, rx, L) I E 2 [some (.ref 512), some (.int v1), some (.int v2), some (.int (v3 + 1))] [] [] []) ok_X14_at rfl q_cn ?_
        exact ih (I := q_ws I []) (E := q_ws E []) hf (fun hz => q_Jmrg rfl rfl (hK0 hz)) (fun hz => q_Jmrg rfl rfl (hK1 hz))
      · have hf := q_in h3 hf
        obtain ⟨j4, hj4, hf⟩ := q_bd hf
        refine q_blf 5 [j4] (a := q_kc (t, r, m, z, N, ext, rx, L) I E 30 [some (.ref 512), some (.int v1), some (.int v2), some (.int v3)] [] [] []) (b := q_kc (t, r, m, z, N, ext, rx, L) I E 17 [some (.ref 512), some (.int v1), some (.int v2), some (.int v3)] [] [] []) (P := v2 < ((I 515) j4)) ok_X14_at rfl (q_cc hj4 q_cn) (fun h5 => ?_) (fun h5 => ?_)
        · have hf := q_ip h5 hf
          refine q_blk 2 [] (c' := q_kc (t, r, m, z, N, ext, rx, L) I E 2 [some (.ref 512), some (.int v1), some (.int v2), some (.int (v3 + 1))] [] [] []) ok_X14_at rfl q_cn ?_
          exact ih (I := q_ws I []) (E := q_ws E []) hf (fun hz => q_Jmrg rfl rfl (hK0 hz)) (fun hz => q_Jmrg rfl rfl (hK1 hz))
        · have hf := q_in h5 hf
          obtain ⟨j6, hj6, hf⟩ := q_bd hf
          obtain ⟨j7, hj7, hf⟩ := q_bd hf
          refine q_blf 10 [j6, j7] (a := q_kc (t, r, m, z, N, ext, rx, L) I E 30 [some (.ref 512), some (.int v1), some (.int v2), some (.int v3)] [] [] []) (b := q_kc (t, r, m, z, N, ext, rx, L) I E 28 [some (.ref 512), some (.int v1), some (.int v2), some (.int v3)] [] [] []) (P := (((I 515) j6) + ((I 516) j7)) ≤ v2) ok_X14_at rfl (q_cc hj7 (q_cc hj6 q_cn)) (fun h8 => ?_) (fun h8 => ?_)
          · have hf := q_ip h8 hf
            refine q_blk 2 [] (c' := q_kc (t, r, m, z, N, ext, rx, L) I E 2 [some (.ref 512), some (.int v1), some (.int v2), some (.int (v3 + 1))] [] [] []) ok_X14_at rfl q_cn ?_
            exact ih (I := q_ws I []) (E := q_ws E []) hf (fun hz => q_Jmrg rfl rfl (hK0 hz)) (fun hz => q_Jmrg rfl rfl (hK1 hz))
          · have hf := q_in h8 hf
            refine q_less (ls' := [none, none, none, some (.int v3)]) (q_sb1 (q_sb1 (q_sb1 (q_sb2 q_sb0)))) ?_
            cases hf
            exact q_Jpad [] [] rfl rfl (hK1 rfl)
set_option maxHeartbeats 4000000 in
theorem ct_X14_at_512 {g : q_G} {t : Nat} {r : Nat} {m : Nat} {z : Nat} {N : Nat} {ext : Nat → q_Sh} {rx : Nat → Nat → Option Nat} {L : Nat → Nat → Int64} {d : Nat} (hd : 1 ≤ d)  {I : Nat → Nat → Int32} {E : Nat → Nat → Option Nat} {x1 : Int32} {x2 : Int32} {r0 : Int32} (hf : f_X14_at (I 514) (I 515) (I 516) x1 x2 = some r0) : q_Ct g m_X14_at d 0 0 [] [.ref 512, .int x1, .int x2] (q_hp (t, r, m, z, N, ext, rx, L) I E) (fun o h' => o = .inl (some (.int r0)) ∧ h' = q_hp (t, r, m, z, N, ext, rx, L) (q_ws I []) (q_ws E [])) := by
  rw [f_X14_at] at hf
  refine q_Ct_of ok_X14_at (Nat.le_of_ble_eq_true rfl) ?_ _ rfl rfl
  change q_J g m_X14_at d 0 0 _ [] _ 0 0 (q_kc (t, r, m, z, N, ext, rx, L) I E 0 [some (.ref 512), some (.int x1), some (.int x2), none] [] [] [])
  refine q_blk 2 [] (c' := q_kc (t, r, m, z, N, ext, rx, L) I E 2 [some (.ref 512), some (.int x1), some (.int x2), some (.int (0 : Int32))] [] [] []) ok_X14_at rfl q_cn ?_
  obtain ⟨r9, hr9, hf⟩ := q_bd hf
  refine lp_X14_at_L2_512 (I := q_ws I []) (E := q_ws E []) hd (Nat.le_of_ble_eq_true rfl) (Nat.le_of_ble_eq_true rfl) 4096 hr9 ?_ ?_
  · intro hz0
    have hf := q_ip hz0 hf
    refine q_Jmrg (lI' := []) (lE' := []) rfl rfl ?_
    refine q_blk 1 [] (c' := q_kc (t, r, m, z, N, ext, rx, L) I E 33 [none, none, none, none] [.int (-1 : Int32)] [] []) ok_X14_at rfl q_cn ?_
    cases hf
    exact q_kri ok_X14_at rfl rfl rfl (Nat.le_of_ble_eq_true rfl) (Nat.le_of_ble_eq_true rfl) ⟨rfl, q_hpe (q_fin [] rfl) (q_fin [] rfl)⟩
  · intro hz1
    have hf := q_in (fun h9 => absurd (hz1.symm.trans h9) (by decide)) hf
    refine q_Jmrg (lI' := []) (lE' := []) rfl rfl ?_
    refine q_blk 1 [] (c' := q_kc (t, r, m, z, N, ext, rx, L) I E 29 [none, none, none, some (.int r9.2)] [.int r9.2] [] []) ok_X14_at rfl q_cn ?_
    cases hf
    exact q_kri ok_X14_at rfl rfl rfl (Nat.le_of_ble_eq_true rfl) (Nat.le_of_ble_eq_true rfl) ⟨rfl, q_hpe (q_fin [] rfl) (q_fin [] rfl)⟩
set_option maxHeartbeats 4000000 in
theorem lp_X14_emptyFrom_L2_512 {g : q_G} {d mc ms : Nat} {h0 : q_H} {Q : (Option Value ⊕ String) → q_H → Prop} {k n : Nat} {t : Nat} {r : Nat} {m : Nat} {z : Nat} {N : Nat} {ext : Nat → q_Sh} {rx : Nat → Nat → Option Nat} {L : Nat → Nat → Int64} (hd : 2 ≤ d) (hk : k ≤ mc) (hn : n ≤ ms)  {v1 : Int32} : ∀ (fu : Nat) {I : Nat → Nat → Int32} {E : Nat → Nat → Option Nat} {v2 : Int32} {r0 : Int32} (hf : f_X14_emptyFrom_L2 (I 499) (I 514) (I 515) (I 516) v1 fu v2 = some r0) (hK0 : q_J g m_X14_emptyFrom d mc ms h0 [] Q k n (q_kc (t, r, m, z, N, ext, rx, L) I E 20 [none, none, some (.int r0)] [] [] [])), q_J g m_X14_emptyFrom d mc ms h0 [] Q k n (2, [some (.ref 512), some (.int v1), some (.int v2)], [], q_hp (t, r, m, z, N, ext, rx, L) I E) := by
  intro fu
  induction fu with
  | zero =>
    intro I E v2 r0 hf hK0
    rw [f_X14_emptyFrom_L2] at hf
    cases hf
  | succ fu ih =>
    intro I E v2 r0 hf hK0
    rw [f_X14_emptyFrom_L2] at hf
    change q_J g m_X14_emptyFrom d mc ms h0 [] Q k n (q_kc (t, r, m, z, N, ext, rx, L) I E 2 [some (.ref 512), some (.int v1), some (.int v2)] [] [] [])
    refine q_blf 7 [] (a := q_kc (t, r, m, z, N, ext, rx, L) I E 20 [some (.ref 512), some (.int v1), some (.int v2)] [] [] []) (b := q_kc (t, r, m, z, N, ext, rx, L) I E 10 [some (.ref 512), some (.int v1), some (.int v2)] [] [] []) (P := ((I 499) 2) ≤ (v1 + v2)) ok_X14_emptyFrom rfl q_cn (fun h1 => ?_) (fun h1 => ?_)
    · have hf := q_ip h1 hf
      refine q_less (ls' := [none, none, some (.int v2)]) (q_sb1 (q_sb1 (q_sb2 q_sb0))) ?_
      cases hf
      exact q_Jpad [] [] rfl rfl hK0
    · have hf := q_in h1 hf
      refine q_blk 5 [] (c' := q_kc (t, r, m, z, N, ext, rx, L) I E 15 [some (.ref 512), some (.int v1), some (.int v2)] [.int (v1 + v2), .int (2 : Int32), .ref 512] [] []) ok_X14_emptyFrom rfl q_cn ?_
      obtain ⟨r2, hr2, hf⟩ := q_bd hf
      refine q_kV (M2 := m_X14_at) (As := [.int (2 : Int32), .int (v1 + v2)]) (b := 512) (v2 := some (.int r2)) ok_X14_emptyFrom ok_X14_at cv_X14_at (ct_X14_at_512 (d := 1) (Nat.le_refl _) hr2) rfl rfl (Or.inl rfl) rfl rfl rfl rfl (Nat.le_trans (Nat.le_of_ble_eq_true rfl) hd) hk hn (Nat.le_of_ble_eq_true rfl) (fun x hx => absurd hx List.not_mem_nil) (q_nmL0 _) (q_nmS0 _) rfl (pos' := 16) (st' := [.int r2]) (lI' := []) (lE' := []) rfl rfl rfl rfl ?_
      refine q_blf 1 [] (a := q_kc (t, r, m, z, N, ext, rx, L) I E 20 [some (.ref 512), some (.int v1), some (.int v2)] [] [] []) (b := q_kc (t, r, m, z, N, ext, rx, L) I E 18 [some (.ref 512), some (.int v1), some (.int v2)] [] [] []) (P := ¬ r2 = (-1 : Int32)) ok_X14_emptyFrom rfl q_cn (fun h3 => ?_) (fun h3 => ?_)
      · have hf := q_ip h3 hf
        refine q_less (ls' := [none, none, some (.int v2)]) (q_sb1 (q_sb1 (q_sb2 q_sb0))) ?_
        cases hf
        exact q_Jpad [] [] rfl rfl hK0
      · have hf := q_in h3 hf
        refine q_blk 2 [] (c' := q_kc (t, r, m, z, N, ext, rx, L) I E 2 [some (.ref 512), some (.int v1), some (.int (v2 + 1))] [] [] []) ok_X14_emptyFrom rfl q_cn ?_
        exact ih (I := q_ws I []) (E := q_ws E []) hf (q_Jmrg rfl rfl hK0)
set_option maxHeartbeats 4000000 in
theorem ct_X14_emptyFrom_512 {g : q_G} {t : Nat} {r : Nat} {m : Nat} {z : Nat} {N : Nat} {ext : Nat → q_Sh} {rx : Nat → Nat → Option Nat} {L : Nat → Nat → Int64} {d : Nat} (hd : 2 ≤ d)  {I : Nat → Nat → Int32} {E : Nat → Nat → Option Nat} {x1 : Int32} {r0 : Int32} (hf : f_X14_emptyFrom (I 499) (I 514) (I 515) (I 516) x1 = some r0) : q_Ct g m_X14_emptyFrom d 0 0 [] [.ref 512, .int x1] (q_hp (t, r, m, z, N, ext, rx, L) I E) (fun o h' => o = .inl (some (.int r0)) ∧ h' = q_hp (t, r, m, z, N, ext, rx, L) (q_ws I []) (q_ws E [])) := by
  rw [f_X14_emptyFrom] at hf
  refine q_Ct_of ok_X14_emptyFrom (Nat.le_of_ble_eq_true rfl) ?_ _ rfl rfl
  change q_J g m_X14_emptyFrom d 0 0 _ [] _ 0 0 (q_kc (t, r, m, z, N, ext, rx, L) I E 0 [some (.ref 512), some (.int x1), none] [] [] [])
  refine q_blk 2 [] (c' := q_kc (t, r, m, z, N, ext, rx, L) I E 2 [some (.ref 512), some (.int x1), some (.int (0 : Int32))] [] [] []) ok_X14_emptyFrom rfl q_cn ?_
  obtain ⟨r4, hr4, hf⟩ := q_bd hf
  refine lp_X14_emptyFrom_L2_512 (I := q_ws I []) (E := q_ws E []) hd (Nat.le_of_ble_eq_true rfl) (Nat.le_of_ble_eq_true rfl) 4096 hr4 ?_
  refine q_Jmrg (lI' := []) (lE' := []) rfl rfl ?_
  refine q_blk 1 [] (c' := q_kc (t, r, m, z, N, ext, rx, L) I E 21 [none, none, some (.int r4)] [.int r4] [] []) ok_X14_emptyFrom rfl q_cn ?_
  cases hf
  exact q_kri ok_X14_emptyFrom rfl rfl rfl (Nat.le_of_ble_eq_true rfl) (Nat.le_of_ble_eq_true rfl) ⟨rfl, q_hpe (q_fin [] rfl) (q_fin [] rfl)⟩
set_option maxHeartbeats 4000000 in
theorem lp_X14_longestGap_L4_512 {g : q_G} {d mc ms : Nat} {h0 : q_H} {Q : (Option Value ⊕ String) → q_H → Prop} {k n : Nat} {t : Nat} {r : Nat} {m : Nat} {z : Nat} {N : Nat} {ext : Nat → q_Sh} {rx : Nat → Nat → Option Nat} {L : Nat → Nat → Int64} (hd : 3 ≤ d) (hk : k ≤ mc) (hn : n ≤ ms)  : ∀ (fu : Nat) {I : Nat → Nat → Int32} {E : Nat → Nat → Option Nat} {v1 : Int32} {v2 : Int32} {r0 : Int32} (hf : f_X14_longestGap_L4 (I 499) (I 514) (I 515) (I 516) fu v1 v2 = some r0) (hK0 : q_J g m_X14_longestGap d mc ms h0 [] Q k n (q_kc (t, r, m, z, N, ext, rx, L) I E 18 [none, some (.int r0), none] [] [] [])), q_J g m_X14_longestGap d mc ms h0 [] Q k n (4, [some (.ref 512), some (.int v1), some (.int v2)], [], q_hp (t, r, m, z, N, ext, rx, L) I E) := by
  intro fu
  induction fu with
  | zero =>
    intro I E v1 v2 r0 hf hK0
    rw [f_X14_longestGap_L4] at hf
    cases hf
  | succ fu ih =>
    intro I E v1 v2 r0 hf hK0
    rw [f_X14_longestGap_L4] at hf
    change q_J g m_X14_longestGap d mc ms h0 [] Q k n (q_kc (t, r, m, z, N, ext, rx, L) I E 4 [some (.ref 512), some (.int v1), some (.int v2)] [] [] [])
    refine q_blf 5 [] (a := q_kc (t, r, m, z, N, ext, rx, L) I E 18 [some (.ref 512), some (.int v1), some (.int v2)] [] [] []) (b := q_kc (t, r, m, z, N, ext, rx, L) I E 10 [some (.ref 512), some (.int v1), some (.int v2)] [] [] []) (P := ((I 499) 2) ≤ v2) ok_X14_longestGap rfl q_cn (fun h1 => ?_) (fun h1 => ?_)
    · have hf := q_ip h1 hf
      refine q_less (ls' := [none, some (.int v1), none]) (q_sb1 (q_sb2 (q_sb1 q_sb0))) ?_
      cases hf
      exact q_Jpad [] [] rfl rfl hK0
    · have hf := q_in h1 hf
      refine q_blk 3 [] (c' := q_kc (t, r, m, z, N, ext, rx, L) I E 13 [some (.ref 512), some (.int v1), some (.int v2)] [.int v2, .ref 512, .int v1] [] []) ok_X14_longestGap rfl q_cn ?_
      obtain ⟨r2, hr2, hf⟩ := q_bd hf
      refine q_kV (M2 := m_X14_emptyFrom) (As := [.int v2]) (b := 512) (v2 := some (.int r2)) ok_X14_longestGap ok_X14_emptyFrom cv_X14_emptyFrom (ct_X14_emptyFrom_512 (d := 2) (Nat.le_refl _) hr2) rfl rfl (Or.inl rfl) rfl rfl rfl rfl (Nat.le_trans (Nat.le_of_ble_eq_true rfl) hd) hk hn (Nat.le_of_ble_eq_true rfl) (fun x hx => absurd hx List.not_mem_nil) (q_nmL0 _) (q_nmS0 _) rfl (pos' := 14) (st' := [.int r2, .int v1]) (lI' := []) (lE' := []) rfl rfl rfl rfl ?_
      refine q_kmx (pos' := 15) ok_X14_longestGap rfl rfl (Nat.le_trans (Nat.le_of_ble_eq_true rfl) hd) (Nat.le_of_ble_eq_true rfl) hk hn rfl ?_
      refine q_blk 3 [] (c' := q_kc (t, r, m, z, N, ext, rx, L) I E 4 [some (.ref 512), some (.int (q_max v1 r2)), some (.int (v2 + 1))] [] [] []) ok_X14_longestGap rfl q_cn ?_
      exact ih (I := q_ws I []) (E := q_ws E []) hf (q_Jmrg rfl rfl hK0)
set_option maxHeartbeats 4000000 in
theorem ct_X14_longestGap_512 {g : q_G} {t : Nat} {r : Nat} {m : Nat} {z : Nat} {N : Nat} {ext : Nat → q_Sh} {rx : Nat → Nat → Option Nat} {L : Nat → Nat → Int64} {d : Nat} (hd : 3 ≤ d)  {I : Nat → Nat → Int32} {E : Nat → Nat → Option Nat} {r0 : Int32} (hf : f_X14_longestGap (I 499) (I 514) (I 515) (I 516) = some r0) : q_Ct g m_X14_longestGap d 0 0 [] [.ref 512] (q_hp (t, r, m, z, N, ext, rx, L) I E) (fun o h' => o = .inl (some (.int r0)) ∧ h' = q_hp (t, r, m, z, N, ext, rx, L) (q_ws I []) (q_ws E [])) := by
  rw [f_X14_longestGap] at hf
  refine q_Ct_of ok_X14_longestGap (Nat.le_of_ble_eq_true rfl) ?_ _ rfl rfl
  change q_J g m_X14_longestGap d 0 0 _ [] _ 0 0 (q_kc (t, r, m, z, N, ext, rx, L) I E 0 [some (.ref 512), none, none] [] [] [])
  refine q_blk 4 [] (c' := q_kc (t, r, m, z, N, ext, rx, L) I E 4 [some (.ref 512), some (.int (0 : Int32)), some (.int (0 : Int32))] [] [] []) ok_X14_longestGap rfl q_cn ?_
  obtain ⟨r3, hr3, hf⟩ := q_bd hf
  refine lp_X14_longestGap_L4_512 (I := q_ws I []) (E := q_ws E []) hd (Nat.le_of_ble_eq_true rfl) (Nat.le_of_ble_eq_true rfl) 4096 hr3 ?_
  refine q_Jmrg (lI' := []) (lE' := []) rfl rfl ?_
  refine q_blk 1 [] (c' := q_kc (t, r, m, z, N, ext, rx, L) I E 19 [none, some (.int r3), none] [.int r3] [] []) ok_X14_longestGap rfl q_cn ?_
  cases hf
  exact q_kri ok_X14_longestGap rfl rfl rfl (Nat.le_of_ble_eq_true rfl) (Nat.le_of_ble_eq_true rfl) ⟨rfl, q_hpe (q_fin [] rfl) (q_fin [] rfl)⟩
set_option maxHeartbeats 4000000 in
theorem ct_X15_longestGap_492 {g : q_G} {t : Nat} {r : Nat} {m : Nat} {z : Nat} {N : Nat} {ext : Nat → q_Sh} {rx : Nat → Nat → Option Nat} {L : Nat → Nat → Int64} {d : Nat} (hd : 4 ≤ d)  {I : Nat → Nat → Int32} {E : Nat → Nat → Option Nat} {r0 : Int32 × (Nat → Int32)} (hf : f_X15_longestGap (I 492) (I 499) (I 514) (I 515) (I 516) = some r0) : q_Ct g m_X15_longestGap d 0 0 [] [.ref 492] (q_hp (t, r, m, z, N, ext, rx, L) I E) (fun o h' => o = .inl (some (.int r0.1)) ∧ h' = q_hp (t, r, m, z, N, ext, rx, L) (q_ws I [(492, r0.2)]) (q_ws E [])) := by
  rw [f_X15_longestGap] at hf
  refine q_Ct_of ok_X15_longestGap (Nat.le_of_ble_eq_true rfl) ?_ _ rfl rfl
  change q_J g m_X15_longestGap d 0 0 _ [] _ 0 0 (q_kc (t, r, m, z, N, ext, rx, L) I E 0 [some (.ref 492)] [] [] [])
  refine q_blk 3 [] (c' := q_kc (t, r, m, z, N, ext, rx, L) I E 3 [some (.ref 492)] [.ref 512, .ref 492] [] []) ok_X15_longestGap rfl q_cn ?_
  obtain ⟨r1, hr1, hf⟩ := q_bd hf
  refine q_kV (M2 := m_X14_longestGap) (As := []) (b := 512) (v2 := some (.int r1)) ok_X15_longestGap ok_X14_longestGap cv_X14_longestGap (ct_X14_longestGap_512 (d := 3) (Nat.le_refl _) hr1) rfl rfl (Or.inl rfl) rfl rfl rfl rfl (Nat.le_trans (Nat.le_of_ble_eq_true rfl) hd) (Nat.le_of_ble_eq_true rfl) (Nat.le_of_ble_eq_true rfl) (Nat.le_of_ble_eq_true rfl) (fun x hx => absurd hx List.not_mem_nil) (q_nmL0 _) (q_nmS0 _) rfl (pos' := 4) (st' := [.int r1, .ref 492]) (lI' := []) (lE' := []) rfl rfl rfl rfl ?_
  obtain ⟨r2, hr2, hf⟩ := q_bd hf
  refine q_kV (M2 := m_X15_ok) (As := [.int r1]) (b := 492) (v2 := some (.int r2.1)) ok_X15_longestGap ok_X15_ok cv_X15_ok (ct_X15_ok_492 (d := 1) (Nat.le_refl _) hr2) rfl rfl (Or.inl rfl) rfl rfl rfl rfl (Nat.le_trans (Nat.le_of_ble_eq_true rfl) hd) (Nat.le_of_ble_eq_true rfl) (Nat.le_of_ble_eq_true rfl) (Nat.le_of_ble_eq_true rfl) (fun x hx => absurd hx List.not_mem_nil) (q_nmL0 _) (q_nmS0 _) rfl (pos' := 5) (st' := [.int r2.1]) (lI' := [(492, r2.2)]) (lE' := []) rfl rfl rfl rfl ?_
  cases hf
  exact q_kri ok_X15_longestGap rfl rfl rfl (Nat.le_of_ble_eq_true rfl) (Nat.le_of_ble_eq_true rfl) ⟨rfl, q_hpe (q_fin [492] rfl) (q_fin [] rfl)⟩
set_option maxHeartbeats 4000000 in
theorem lp_X14_bales_L4_512 {g : q_G} {d mc ms : Nat} {h0 : q_H} {Q : (Option Value ⊕ String) → q_H → Prop} {k n : Nat} {t : Nat} {r : Nat} {m : Nat} {z : Nat} {N : Nat} {ext : Nat → q_Sh} {rx : Nat → Nat → Option Nat} {L : Nat → Nat → Int64} (hd : 1 ≤ d) (hk : k ≤ mc) (hn : n ≤ ms)  {v1 : Int32} : ∀ (fu : Nat) {I : Nat → Nat → Int32} {E : Nat → Nat → Option Nat} {v2 : Int32} {v3 : Int32} {r0 : Int32} (hf : f_X14_bales_L4 (I 514) v1 fu v2 v3 = some r0) (hK0 : q_J g m_X14_bales d mc ms h0 [] Q k n (q_kc (t, r, m, z, N, ext, rx, L) I E 21 [none, none, some (.int r0), none] [] [] [])), q_J g m_X14_bales d mc ms h0 [] Q k n (4, [some (.ref 512), some (.int v1), some (.int v2), some (.int v3)], [], q_hp (t, r, m, z, N, ext, rx, L) I E) := by
  intro fu
  induction fu with
  | zero =>
    intro I E v2 v3 r0 hf hK0
    rw [f_X14_bales_L4] at hf
    cases hf
  | succ fu ih =>
    intro I E v2 v3 r0 hf hK0
    rw [f_X14_bales_L4] at hf
    change q_J g m_X14_bales d mc ms h0 [] Q k n (q_kc (t, r, m, z, N, ext, rx, L) I E 4 [some (.ref 512), some (.int v1), some (.int v2), some (.int v3)] [] [] [])
    refine q_blf 2 [] (a := q_kc (t, r, m, z, N, ext, rx, L) I E 21 [some (.ref 512), some (.int v1), some (.int v2), some (.int v3)] [] [] []) (b := q_kc (t, r, m, z, N, ext, rx, L) I E 7 [some (.ref 512), some (.int v1), some (.int v2), some (.int v3)] [] [] []) (P := (136 : Int32) ≤ v3) ok_X14_bales rfl q_cn (fun h1 => ?_) (fun h1 => ?_)
    · have hf := q_ip h1 hf
      refine q_less (ls' := [none, none, some (.int v2), none]) (q_sb1 (q_sb1 (q_sb2 (q_sb1 q_sb0)))) ?_
      cases hf
      exact q_Jpad [] [] rfl rfl hK0
    · have hf := q_in h1 hf
      obtain ⟨j2, hj2, hf⟩ := q_bd hf
      refine q_blf 6 [j2] (a := q_kc (t, r, m, z, N, ext, rx, L) I E 16 [some (.ref 512), some (.int v1), some (.int v2), some (.int v3)] [.int v2] [] []) (b := q_kc (t, r, m, z, N, ext, rx, L) I E 14 [some (.ref 512), some (.int v1), some (.int v2), some (.int v3)] [.int v2] [] []) (P := ¬ ((I 514) j2) = v1) ok_X14_bales rfl (q_cc hj2 q_cn) (fun h3 => ?_) (fun h3 => ?_)
      · have hf := q_ip h3 hf
        refine q_blk 5 [] (c' := q_kc (t, r, m, z, N, ext, rx, L) I E 4 [some (.ref 512), some (.int v1), some (.int (v2 + (0 : Int32))), some (.int (v3 + 1))] [] [] []) ok_X14_bales rfl q_cn ?_
        exact ih (I := q_ws I []) (E := q_ws E []) hf (q_Jmrg rfl rfl hK0)
      · have hf := q_in h3 hf
        refine q_blk 6 [] (c' := q_kc (t, r, m, z, N, ext, rx, L) I E 4 [some (.ref 512), some (.int v1), some (.int (v2 + (1 : Int32))), some (.int (v3 + 1))] [] [] []) ok_X14_bales rfl q_cn ?_
        exact ih (I := q_ws I []) (E := q_ws E []) hf (q_Jmrg rfl rfl hK0)
set_option maxHeartbeats 4000000 in
theorem ct_X14_bales_512 {g : q_G} {t : Nat} {r : Nat} {m : Nat} {z : Nat} {N : Nat} {ext : Nat → q_Sh} {rx : Nat → Nat → Option Nat} {L : Nat → Nat → Int64} {d : Nat} (hd : 1 ≤ d)  {I : Nat → Nat → Int32} {E : Nat → Nat → Option Nat} {x1 : Int32} {r0 : Int32} (hf : f_X14_bales (I 514) x1 = some r0) : q_Ct g m_X14_bales d 0 0 [] [.ref 512, .int x1] (q_hp (t, r, m, z, N, ext, rx, L) I E) (fun o h' => o = .inl (some (.int r0)) ∧ h' = q_hp (t, r, m, z, N, ext, rx, L) (q_ws I []) (q_ws E [])) := by
  rw [f_X14_bales] at hf
  refine q_Ct_of ok_X14_bales (Nat.le_of_ble_eq_true rfl) ?_ _ rfl rfl
  change q_J g m_X14_bales d 0 0 _ [] _ 0 0 (q_kc (t, r, m, z, N, ext, rx, L) I E 0 [some (.ref 512), some (.int x1), none, none] [] [] [])
  refine q_blk 4 [] (c' := q_kc (t, r, m, z, N, ext, rx, L) I E 4 [some (.ref 512), some (.int x1), some (.int (0 : Int32)), some (.int (0 : Int32))] [] [] []) ok_X14_bales rfl q_cn ?_
  obtain ⟨r4, hr4, hf⟩ := q_bd hf
  refine lp_X14_bales_L4_512 (I := q_ws I []) (E := q_ws E []) hd (Nat.le_of_ble_eq_true rfl) (Nat.le_of_ble_eq_true rfl) 4096 hr4 ?_
  refine q_Jmrg (lI' := []) (lE' := []) rfl rfl ?_
  refine q_blk 1 [] (c' := q_kc (t, r, m, z, N, ext, rx, L) I E 22 [none, none, some (.int r4), none] [.int r4] [] []) ok_X14_bales rfl q_cn ?_
  cases hf
  exact q_kri ok_X14_bales rfl rfl rfl (Nat.le_of_ble_eq_true rfl) (Nat.le_of_ble_eq_true rfl) ⟨rfl, q_hpe (q_fin [] rfl) (q_fin [] rfl)⟩
set_option maxHeartbeats 4000000 in
theorem ct_X14_bales__512 {g : q_G} {t : Nat} {r : Nat} {m : Nat} {z : Nat} {N : Nat} {ext : Nat → q_Sh} {rx : Nat → Nat → Option Nat} {L : Nat → Nat → Int64} {d : Nat} (hd : 2 ≤ d)  {I : Nat → Nat → Int32} {E : Nat → Nat → Option Nat} {r0 : Int32} (hf : f_X14_bales_ (I 514) = some r0) : q_Ct g m_X14_bales_ d 0 0 [] [.ref 512] (q_hp (t, r, m, z, N, ext, rx, L) I E) (fun o h' => o = .inl (some (.int r0)) ∧ h' = q_hp (t, r, m, z, N, ext, rx, L) (q_ws I []) (q_ws E [])) := by
  rw [f_X14_bales_] at hf
  refine q_Ct_of ok_X14_bales_ (Nat.le_of_ble_eq_true rfl) ?_ _ rfl rfl
  change q_J g m_X14_bales_ d 0 0 _ [] _ 0 0 (q_kc (t, r, m, z, N, ext, rx, L) I E 0 [some (.ref 512)] [] [] [])
  refine q_blk 2 [] (c' := q_kc (t, r, m, z, N, ext, rx, L) I E 2 [some (.ref 512)] [.int (1 : Int32), .ref 512] [] []) ok_X14_bales_ rfl q_cn ?_
  obtain ⟨r1, hr1, hf⟩ := q_bd hf
  refine q_kV (M2 := m_X14_bales) (As := [.int (1 : Int32)]) (b := 512) (v2 := some (.int r1)) ok_X14_bales_ ok_X14_bales cv_X14_bales (ct_X14_bales_512 (d := 1) (Nat.le_refl _) hr1) rfl rfl (Or.inl rfl) rfl rfl rfl rfl (Nat.le_trans (Nat.le_of_ble_eq_true rfl) hd) (Nat.le_of_ble_eq_true rfl) (Nat.le_of_ble_eq_true rfl) (Nat.le_of_ble_eq_true rfl) (fun x hx => absurd hx List.not_mem_nil) (q_nmL0 _) (q_nmS0 _) rfl (pos' := 3) (st' := [.int r1]) (lI' := []) (lE' := []) rfl rfl rfl rfl ?_
  refine q_blk 2 [] (c' := q_kc (t, r, m, z, N, ext, rx, L) I E 5 [some (.ref 512)] [.int (2 : Int32), .ref 512, .int r1] [] []) ok_X14_bales_ rfl q_cn ?_
  obtain ⟨r2, hr2, hf⟩ := q_bd hf
  refine q_kV (M2 := m_X14_bales) (As := [.int (2 : Int32)]) (b := 512) (v2 := some (.int r2)) ok_X14_bales_ ok_X14_bales cv_X14_bales (ct_X14_bales_512 (d := 1) (Nat.le_refl _) hr2) rfl rfl (Or.inl rfl) rfl rfl rfl rfl (Nat.le_trans (Nat.le_of_ble_eq_true rfl) hd) (Nat.le_of_ble_eq_true rfl) (Nat.le_of_ble_eq_true rfl) (Nat.le_of_ble_eq_true rfl) (fun x hx => absurd hx List.not_mem_nil) (q_nmL0 _) (q_nmS0 _) rfl (pos' := 6) (st' := [.int r2, .int r1]) (lI' := []) (lE' := []) rfl rfl rfl rfl ?_
  refine q_blk 1 [] (c' := q_kc (t, r, m, z, N, ext, rx, L) I E 7 [some (.ref 512)] [.int (r1 + r2)] [] []) ok_X14_bales_ rfl q_cn ?_
  cases hf
  exact q_kri ok_X14_bales_ rfl rfl rfl (Nat.le_of_ble_eq_true rfl) (Nat.le_of_ble_eq_true rfl) ⟨rfl, q_hpe (q_fin [] rfl) (q_fin [] rfl)⟩
set_option maxHeartbeats 4000000 in
theorem ct_X15_bales_492 {g : q_G} {t : Nat} {r : Nat} {m : Nat} {z : Nat} {N : Nat} {ext : Nat → q_Sh} {rx : Nat → Nat → Option Nat} {L : Nat → Nat → Int64} {d : Nat} (hd : 3 ≤ d)  {I : Nat → Nat → Int32} {E : Nat → Nat → Option Nat} {r0 : Int32 × (Nat → Int32)} (hf : f_X15_bales (I 492) (I 514) = some r0) : q_Ct g m_X15_bales d 0 0 [] [.ref 492] (q_hp (t, r, m, z, N, ext, rx, L) I E) (fun o h' => o = .inl (some (.int r0.1)) ∧ h' = q_hp (t, r, m, z, N, ext, rx, L) (q_ws I [(492, r0.2)]) (q_ws E [])) := by
  rw [f_X15_bales] at hf
  refine q_Ct_of ok_X15_bales (Nat.le_of_ble_eq_true rfl) ?_ _ rfl rfl
  change q_J g m_X15_bales d 0 0 _ [] _ 0 0 (q_kc (t, r, m, z, N, ext, rx, L) I E 0 [some (.ref 492)] [] [] [])
  refine q_blk 3 [] (c' := q_kc (t, r, m, z, N, ext, rx, L) I E 3 [some (.ref 492)] [.ref 512, .ref 492] [] []) ok_X15_bales rfl q_cn ?_
  obtain ⟨r1, hr1, hf⟩ := q_bd hf
  refine q_kV (M2 := m_X14_bales_) (As := []) (b := 512) (v2 := some (.int r1)) ok_X15_bales ok_X14_bales_ cv_X14_bales_ (ct_X14_bales__512 (d := 2) (Nat.le_refl _) hr1) rfl rfl (Or.inl rfl) rfl rfl rfl rfl (Nat.le_trans (Nat.le_of_ble_eq_true rfl) hd) (Nat.le_of_ble_eq_true rfl) (Nat.le_of_ble_eq_true rfl) (Nat.le_of_ble_eq_true rfl) (fun x hx => absurd hx List.not_mem_nil) (q_nmL0 _) (q_nmS0 _) rfl (pos' := 4) (st' := [.int r1, .ref 492]) (lI' := []) (lE' := []) rfl rfl rfl rfl ?_
  obtain ⟨r2, hr2, hf⟩ := q_bd hf
  refine q_kV (M2 := m_X15_ok) (As := [.int r1]) (b := 492) (v2 := some (.int r2.1)) ok_X15_bales ok_X15_ok cv_X15_ok (ct_X15_ok_492 (d := 1) (Nat.le_refl _) hr2) rfl rfl (Or.inl rfl) rfl rfl rfl rfl (Nat.le_trans (Nat.le_of_ble_eq_true rfl) hd) (Nat.le_of_ble_eq_true rfl) (Nat.le_of_ble_eq_true rfl) (Nat.le_of_ble_eq_true rfl) (fun x hx => absurd hx List.not_mem_nil) (q_nmL0 _) (q_nmS0 _) rfl (pos' := 5) (st' := [.int r2.1]) (lI' := [(492, r2.2)]) (lE' := []) rfl rfl rfl rfl ?_
  cases hf
  exact q_kri ok_X15_bales rfl rfl rfl (Nat.le_of_ble_eq_true rfl) (Nat.le_of_ble_eq_true rfl) ⟨rfl, q_hpe (q_fin [492] rfl) (q_fin [] rfl)⟩
set_option maxHeartbeats 4000000 in
theorem ct_X15_balesInLoft_492 {g : q_G} {t : Nat} {r : Nat} {m : Nat} {z : Nat} {N : Nat} {ext : Nat → q_Sh} {rx : Nat → Nat → Option Nat} {L : Nat → Nat → Int64} {d : Nat} (hd : 2 ≤ d)  {I : Nat → Nat → Int32} {E : Nat → Nat → Option Nat} {r0 : Int32 × (Nat → Int32)} (hf : f_X15_balesInLoft (I 492) (I 514) = some r0) : q_Ct g m_X15_balesInLoft d 0 0 [] [.ref 492] (q_hp (t, r, m, z, N, ext, rx, L) I E) (fun o h' => o = .inl (some (.int r0.1)) ∧ h' = q_hp (t, r, m, z, N, ext, rx, L) (q_ws I [(492, r0.2)]) (q_ws E [])) := by
  rw [f_X15_balesInLoft] at hf
  refine q_Ct_of ok_X15_balesInLoft (Nat.le_of_ble_eq_true rfl) ?_ _ rfl rfl
  change q_J g m_X15_balesInLoft d 0 0 _ [] _ 0 0 (q_kc (t, r, m, z, N, ext, rx, L) I E 0 [some (.ref 492)] [] [] [])
  refine q_blk 4 [] (c' := q_kc (t, r, m, z, N, ext, rx, L) I E 4 [some (.ref 492)] [.int (2 : Int32), .ref 512, .ref 492] [] []) ok_X15_balesInLoft rfl q_cn ?_
  obtain ⟨r1, hr1, hf⟩ := q_bd hf
  refine q_kV (M2 := m_X14_bales) (As := [.int (2 : Int32)]) (b := 512) (v2 := some (.int r1)) ok_X15_balesInLoft ok_X14_bales cv_X14_bales (ct_X14_bales_512 (d := 1) (Nat.le_refl _) hr1) rfl rfl (Or.inl rfl) rfl rfl rfl rfl (Nat.le_trans (Nat.le_of_ble_eq_true rfl) hd) (Nat.le_of_ble_eq_true rfl) (Nat.le_of_ble_eq_true rfl) (Nat.le_of_ble_eq_true rfl) (fun x hx => absurd hx List.not_mem_nil) (q_nmL0 _) (q_nmS0 _) rfl (pos' := 5) (st' := [.int r1, .ref 492]) (lI' := []) (lE' := []) rfl rfl rfl rfl ?_
  obtain ⟨r2, hr2, hf⟩ := q_bd hf
  refine q_kV (M2 := m_X15_ok) (As := [.int r1]) (b := 492) (v2 := some (.int r2.1)) ok_X15_balesInLoft ok_X15_ok cv_X15_ok (ct_X15_ok_492 (d := 1) (Nat.le_refl _) hr2) rfl rfl (Or.inl rfl) rfl rfl rfl rfl (Nat.le_trans (Nat.le_of_ble_eq_true rfl) hd) (Nat.le_of_ble_eq_true rfl) (Nat.le_of_ble_eq_true rfl) (Nat.le_of_ble_eq_true rfl) (fun x hx => absurd hx List.not_mem_nil) (q_nmL0 _) (q_nmS0 _) rfl (pos' := 6) (st' := [.int r2.1]) (lI' := [(492, r2.2)]) (lE' := []) rfl rfl rfl rfl ?_
  cases hf
  exact q_kri ok_X15_balesInLoft rfl rfl rfl (Nat.le_of_ble_eq_true rfl) (Nat.le_of_ble_eq_true rfl) ⟨rfl, q_hpe (q_fin [492] rfl) (q_fin [] rfl)⟩
set_option maxHeartbeats 4000000 in
theorem lp_X14_forget_L6_512 {g : q_G} {d mc ms : Nat} {h0 : q_H} {Q : (Option Value ⊕ String) → q_H → Prop} {k n : Nat} {t : Nat} {r : Nat} {m : Nat} {z : Nat} {N : Nat} {ext : Nat → q_Sh} {rx : Nat → Nat → Option Nat} {L : Nat → Nat → Int64} (hd : 1 ≤ d) (hk : k ≤ mc) (hn : n ≤ ms)  : ∀ (fu : Nat) {I : Nat → Nat → Int32} {E : Nat → Nat → Option Nat} {v1 : Int32} {r0 : (Nat → Int32)} (hf : f_X14_forget_L6 fu (I 511) v1 = some r0) (hK0 : q_J g m_X14_forget d mc ms h0 [] Q k n (q_kc (t, r, m, z, N, ext, rx, L) I E 17 [none, none] [] [(511, r0)] [])), q_J g m_X14_forget d mc ms h0 [] Q k n (6, [some (.ref 512), some (.int v1)], [], q_hp (t, r, m, z, N, ext, rx, L) I E) := by
  intro fu
  induction fu with
  | zero =>
    intro I E v1 r0 hf hK0
    rw [f_X14_forget_L6] at hf
    cases hf
  | succ fu ih =>
    intro I E v1 r0 hf hK0
    rw [f_X14_forget_L6] at hf
    change q_J g m_X14_forget d mc ms h0 [] Q k n (q_kc (t, r, m, z, N, ext, rx, L) I E 6 [some (.ref 512), some (.int v1)] [] [] [])
    refine q_blf 2 [] (a := q_kc (t, r, m, z, N, ext, rx, L) I E 17 [some (.ref 512), some (.int v1)] [] [] []) (b := q_kc (t, r, m, z, N, ext, rx, L) I E 9 [some (.ref 512), some (.int v1)] [] [] []) (P := (136 : Int32) ≤ v1) ok_X14_forget rfl q_cn (fun h1 => ?_) (fun h1 => ?_)
    · have hf := q_ip h1 hf
      refine q_less (ls' := [none, none]) (q_sb1 (q_sb1 q_sb0)) ?_
      cases hf
      exact q_Jpad [511] [] rfl rfl hK0
    · have hf := q_in h1 hf
      obtain ⟨j2, hj2, hf⟩ := q_bd hf
      refine q_blk 8 [j2] (c' := q_kc (t, r, m, z, N, ext, rx, L) I E 6 [some (.ref 512), some (.int (v1 + 1))] [] [(511, (q_up (I 511) j2 (0 : Int32)))] []) ok_X14_forget rfl (q_cc hj2 q_cn) ?_
      exact ih (I := q_ws I [(511, (q_up (I 511) j2 (0 : Int32)))]) (E := q_ws E []) hf (q_Jmrg rfl rfl hK0)
set_option maxHeartbeats 4000000 in
theorem ct_X14_forget_512 {g : q_G} {t : Nat} {r : Nat} {m : Nat} {z : Nat} {N : Nat} {ext : Nat → q_Sh} {rx : Nat → Nat → Option Nat} {L : Nat → Nat → Int64} {d : Nat} (hd : 1 ≤ d)  {I : Nat → Nat → Int32} {E : Nat → Nat → Option Nat} {r0 : (Nat → Int32) × (Nat → Int32)} (hf : f_X14_forget (I 492) (I 511) = some r0) : q_Ct g m_X14_forget d 0 0 [] [.ref 512] (q_hp (t, r, m, z, N, ext, rx, L) I E) (fun o h' => o = .inl none ∧ h' = q_hp (t, r, m, z, N, ext, rx, L) (q_ws I [(492, r0.1), (511, r0.2)]) (q_ws E [])) := by
  rw [f_X14_forget] at hf
  refine q_Ct_of ok_X14_forget (Nat.le_of_ble_eq_true rfl) ?_ _ rfl rfl
  change q_J g m_X14_forget d 0 0 _ [] _ 0 0 (q_kc (t, r, m, z, N, ext, rx, L) I E 0 [some (.ref 512), none] [] [] [])
  refine q_blk 6 [] (c' := q_kc (t, r, m, z, N, ext, rx, L) I E 6 [some (.ref 512), some (.int (0 : Int32))] [] [(492, (q_up (I 492) 16 (0 : Int32)))] []) ok_X14_forget rfl q_cn ?_
  obtain ⟨r3, hr3, hf⟩ := q_bd hf
  refine lp_X14_forget_L6_512 (I := q_ws I [(492, (q_up (I 492) 16 (0 : Int32)))]) (E := q_ws E []) hd (Nat.le_of_ble_eq_true rfl) (Nat.le_of_ble_eq_true rfl) 4096 hr3 ?_
  refine q_Jmrg (lI' := [(492, (q_up (I 492) 16 (0 : Int32))), (511, r3)]) (lE' := []) rfl rfl ?_
  cases hf
  exact q_krv ok_X14_forget rfl rfl (Nat.le_of_ble_eq_true rfl) (Nat.le_of_ble_eq_true rfl) ⟨rfl, q_hpe (q_fin [492, 511] rfl) (q_fin [] rfl)⟩
set_option maxHeartbeats 4000000 in
theorem ct_X14_comeTo_512 {g : q_G} {t : Nat} {r : Nat} {m : Nat} {z : Nat} {N : Nat} {ext : Nat → q_Sh} {rx : Nat → Nat → Option Nat} {L : Nat → Nat → Int64} {d : Nat} (hd : 1 ≤ d)  {I : Nat → Nat → Int32} {E : Nat → Nat → Option Nat} {x1 : Int32} {r0 : (Nat → Int32) × (Nat → Int32) × (Nat → Int32)} (hf : f_X14_comeTo (I 492) (I 510) (I 511) x1 = some r0) : q_Ct g m_X14_comeTo d 0 0 [] [.ref 512, .int x1] (q_hp (t, r, m, z, N, ext, rx, L) I E) (fun o h' => o = .inl none ∧ h' = q_hp (t, r, m, z, N, ext, rx, L) (q_ws I [(492, r0.1), (510, r0.2.1), (511, r0.2.2)]) (q_ws E [])) := by
  rw [f_X14_comeTo] at hf
  refine q_Ct_of ok_X14_comeTo (Nat.le_of_ble_eq_true rfl) ?_ _ rfl rfl
  change q_J g m_X14_comeTo d 0 0 _ [] _ 0 0 (q_kc (t, r, m, z, N, ext, rx, L) I E 0 [some (.ref 512), some (.int x1)] [] [] [])
  refine q_blf 2 [] (a := q_kc (t, r, m, z, N, ext, rx, L) I E 9 [some (.ref 512), some (.int x1)] [] [] []) (b := q_kc (t, r, m, z, N, ext, rx, L) I E 3 [some (.ref 512), some (.int x1)] [] [] []) (P := x1 = (-1 : Int32)) ok_X14_comeTo rfl q_cn (fun h1 => ?_) (fun h1 => ?_)
  · have hf := q_ip h1 hf
    cases hf
    exact q_krv ok_X14_comeTo rfl rfl (Nat.le_of_ble_eq_true rfl) (Nat.le_of_ble_eq_true rfl) ⟨rfl, q_hpe (q_fin [492, 510, 511] rfl) (q_fin [] rfl)⟩
  · have hf := q_in h1 hf
    obtain ⟨j2, hj2, hf⟩ := q_bd hf
    refine q_blf 5 [j2] (a := q_kc (t, r, m, z, N, ext, rx, L) I E 10 [some (.ref 512), some (.int x1)] [] [] []) (b := q_kc (t, r, m, z, N, ext, rx, L) I E 9 [some (.ref 512), some (.int x1)] [] [] []) (P := ((I 511) j2) = 0) ok_X14_comeTo rfl (q_cc hj2 q_cn) (fun h3 => ?_) (fun h3 => ?_)
    · have hf := q_ip h3 hf
      obtain ⟨j4, hj4, hf⟩ := q_bd hf
      obtain ⟨j5, hj5, hf⟩ := q_bd hf
      refine q_blk 21 [j4, j5] (c' := q_kc (t, r, m, z, N, ext, rx, L) I E 31 [some (.ref 512), some (.int x1)] [] [(492, (q_up (I 492) 16 (((I 492) 16) + (1 : Int32)))), (510, (q_up (I 510) j5 x1)), (511, (q_up (I 511) j4 (1 : Int32)))] []) ok_X14_comeTo rfl (q_cc hj5 (q_cc hj4 q_cn)) ?_
      cases hf
      exact q_krv ok_X14_comeTo rfl rfl (Nat.le_of_ble_eq_true rfl) (Nat.le_of_ble_eq_true rfl) ⟨rfl, q_hpe (q_fin [492, 510, 511] rfl) (q_fin [] rfl)⟩
    · have hf := q_in h3 hf
      cases hf
      exact q_krv ok_X14_comeTo rfl rfl (Nat.le_of_ble_eq_true rfl) (Nat.le_of_ble_eq_true rfl) ⟨rfl, q_hpe (q_fin [492, 510, 511] rfl) (q_fin [] rfl)⟩
set_option maxHeartbeats 4000000 in
theorem lp_X14_reach_L4_512 {g : q_G} {d mc ms : Nat} {h0 : q_H} {Q : (Option Value ⊕ String) → q_H → Prop} {k n : Nat} {t : Nat} {r : Nat} {m : Nat} {z : Nat} {N : Nat} {ext : Nat → q_Sh} {rx : Nat → Nat → Option Nat} {L : Nat → Nat → Int64} (hd : 2 ≤ d) (hk : k ≤ mc) (hn : n ≤ ms)  : ∀ (fu : Nat) {I : Nat → Nat → Int32} {E : Nat → Nat → Option Nat} {v1 : Int32} {r0 : (Nat → Int32) × (Nat → Int32) × (Nat → Int32)} (hf : f_X14_reach_L4 (I 499) (I 513) fu (I 492) (I 510) (I 511) v1 = some r0) (hK0 : q_J g m_X14_reach d mc ms h0 [] Q k n (q_kc (t, r, m, z, N, ext, rx, L) I E 18 [some (.ref 512), none, none] [] [(492, r0.1), (510, r0.2.1), (511, r0.2.2)] [])), q_J g m_X14_reach d mc ms h0 [] Q k n (4, [some (.ref 512), some (.int v1), none], [], q_hp (t, r, m, z, N, ext, rx, L) I E) := by
  intro fu
  induction fu with
  | zero =>
    intro I E v1 r0 hf hK0
    rw [f_X14_reach_L4] at hf
    cases hf
  | succ fu ih =>
    intro I E v1 r0 hf hK0
    rw [f_X14_reach_L4] at hf
    change q_J g m_X14_reach d mc ms h0 [] Q k n (q_kc (t, r, m, z, N, ext, rx, L) I E 4 [some (.ref 512), some (.int v1), none] [] [] [])
    refine q_blf 5 [] (a := q_kc (t, r, m, z, N, ext, rx, L) I E 18 [some (.ref 512), some (.int v1), none] [] [] []) (b := q_kc (t, r, m, z, N, ext, rx, L) I E 10 [some (.ref 512), some (.int v1), none] [] [] []) (P := ((I 499) 0) ≤ v1) ok_X14_reach rfl q_cn (fun h1 => ?_) (fun h1 => ?_)
    · have hf := q_ip h1 hf
      refine q_less (ls' := [some (.ref 512), none, none]) (q_sb2 (q_sb1 (q_sb1 q_sb0))) ?_
      cases hf
      exact q_Jpad [492, 510, 511] [] rfl rfl hK0
    · have hf := q_in h1 hf
      obtain ⟨j2, hj2, hf⟩ := q_bd hf
      refine q_blk 5 [j2] (c' := q_kc (t, r, m, z, N, ext, rx, L) I E 15 [some (.ref 512), some (.int v1), none] [.int ((I 513) j2), .ref 512] [] []) ok_X14_reach rfl (q_cc hj2 q_cn) ?_
      obtain ⟨r3, hr3, hf⟩ := q_bd hf
      refine q_kV (M2 := m_X14_comeTo) (As := [.int ((I 513) j2)]) (b := 512) (v2 := none) ok_X14_reach ok_X14_comeTo cv_X14_comeTo (ct_X14_comeTo_512 (d := 1) (Nat.le_refl _) hr3) rfl rfl (Or.inl rfl) rfl rfl rfl rfl (Nat.le_trans (Nat.le_of_ble_eq_true rfl) hd) hk hn (Nat.le_of_ble_eq_true rfl) (fun x hx => absurd hx List.not_mem_nil) (q_nmL0 _) (q_nmS0 _) rfl (pos' := 16) (st' := []) (lI' := [(492, r3.1), (510, r3.2.1), (511, r3.2.2)]) (lE' := []) rfl rfl rfl rfl ?_
      refine q_blk 2 [] (c' := q_kc (t, r, m, z, N, ext, rx, L) I E 4 [some (.ref 512), some (.int (v1 + 1)), none] [] [(492, r3.1), (510, r3.2.1), (511, r3.2.2)] []) ok_X14_reach rfl q_cn ?_
      exact ih (I := q_ws I [(492, r3.1), (510, r3.2.1), (511, r3.2.2)]) (E := q_ws E []) hf (q_Jmrg rfl rfl hK0)
set_option maxHeartbeats 4000000 in
theorem lp_X14_reach_L27_512 {g : q_G} {d mc ms : Nat} {h0 : q_H} {Q : (Option Value ⊕ String) → q_H → Prop} {k n : Nat} {t : Nat} {r : Nat} {m : Nat} {z : Nat} {N : Nat} {ext : Nat → q_Sh} {rx : Nat → Nat → Option Nat} {L : Nat → Nat → Int64} (hd : 2 ≤ d) (hk : k ≤ mc) (hn : n ≤ ms)  {v1 : Int32} : ∀ (fu : Nat) {I : Nat → Nat → Int32} {E : Nat → Nat → Option Nat} {v2 : Int32} {r0 : (Nat → Int32) × (Nat → Int32) × (Nat → Int32)} (hf : f_X14_reach_L27 (I 517) (I 519) v1 fu (I 492) (I 510) (I 511) v2 = some r0) (hK0 : q_J g m_X14_reach d mc ms h0 [] Q k n (q_kc (t, r, m, z, N, ext, rx, L) I E 53 [some (.ref 512), some (.int v1), none] [] [(492, r0.1), (510, r0.2.1), (511, r0.2.2)] [])), q_J g m_X14_reach d mc ms h0 [] Q k n (27, [some (.ref 512), some (.int v1), some (.int v2)], [], q_hp (t, r, m, z, N, ext, rx, L) I E) := by
  intro fu
  induction fu with
  | zero =>
    intro I E v2 r0 hf hK0
    rw [f_X14_reach_L27] at hf
    cases hf
  | succ fu ih =>
    intro I E v2 r0 hf hK0
    rw [f_X14_reach_L27] at hf
    change q_J g m_X14_reach d mc ms h0 [] Q k n (q_kc (t, r, m, z, N, ext, rx, L) I E 27 [some (.ref 512), some (.int v1), some (.int v2)] [] [] [])
    obtain ⟨j4, hj4, hf⟩ := q_bd hf
    obtain ⟨j5, hj5, hf⟩ := q_bd hf
    refine q_blf 9 [j4, j5] (a := q_kc (t, r, m, z, N, ext, rx, L) I E 53 [some (.ref 512), some (.int v1), some (.int v2)] [] [] []) (b := q_kc (t, r, m, z, N, ext, rx, L) I E 37 [some (.ref 512), some (.int v1), some (.int v2)] [] [] []) (P := ((I 517) j5) ≤ v2) ok_X14_reach rfl (q_cc hj5 (q_cc hj4 q_cn)) (fun h6 => ?_) (fun h6 => ?_)
    · have hf := q_ip h6 hf
      refine q_less (ls' := [some (.ref 512), some (.int v1), none]) (q_sb2 (q_sb2 (q_sb1 q_sb0))) ?_
      cases hf
      exact q_Jpad [492, 510, 511] [] rfl rfl hK0
    · have hf := q_in h6 hf
      obtain ⟨j7, hj7, hf⟩ := q_bd hf
      obtain ⟨j8, hj8, hf⟩ := q_bd hf
      refine q_blk 13 [j7, j8] (c' := q_kc (t, r, m, z, N, ext, rx, L) I E 50 [some (.ref 512), some (.int v1), some (.int v2)] [.int ((I 519) j8), .ref 512] [] []) ok_X14_reach rfl (q_cc hj8 (q_cc hj7 q_cn)) ?_
      obtain ⟨r9, hr9, hf⟩ := q_bd hf
      refine q_kV (M2 := m_X14_comeTo) (As := [.int ((I 519) j8)]) (b := 512) (v2 := none) ok_X14_reach ok_X14_comeTo cv_X14_comeTo (ct_X14_comeTo_512 (d := 1) (Nat.le_refl _) hr9) rfl rfl (Or.inl rfl) rfl rfl rfl rfl (Nat.le_trans (Nat.le_of_ble_eq_true rfl) hd) hk hn (Nat.le_of_ble_eq_true rfl) (fun x hx => absurd hx List.not_mem_nil) (q_nmL0 _) (q_nmS0 _) rfl (pos' := 51) (st' := []) (lI' := [(492, r9.1), (510, r9.2.1), (511, r9.2.2)]) (lE' := []) rfl rfl rfl rfl ?_
      refine q_blk 2 [] (c' := q_kc (t, r, m, z, N, ext, rx, L) I E 27 [some (.ref 512), some (.int v1), some (.int (v2 + 1))] [] [(492, r9.1), (510, r9.2.1), (511, r9.2.2)] []) ok_X14_reach rfl q_cn ?_
      exact ih (I := q_ws I [(492, r9.1), (510, r9.2.1), (511, r9.2.2)]) (E := q_ws E []) hf (q_Jmrg rfl rfl hK0)
set_option maxHeartbeats 4000000 in
theorem lp_X14_reach_L20_512 {g : q_G} {d mc ms : Nat} {h0 : q_H} {Q : (Option Value ⊕ String) → q_H → Prop} {k n : Nat} {t : Nat} {r : Nat} {m : Nat} {z : Nat} {N : Nat} {ext : Nat → q_Sh} {rx : Nat → Nat → Option Nat} {L : Nat → Nat → Int64} (hd : 2 ≤ d) (hk : k ≤ mc) (hn : n ≤ ms)  : ∀ (fu : Nat) {I : Nat → Nat → Int32} {E : Nat → Nat → Option Nat} {v1 : Int32} {r0 : (Nat → Int32) × (Nat → Int32) × (Nat → Int32)} (hf : f_X14_reach_L20 (I 517) (I 519) fu (I 492) (I 510) (I 511) v1 = some r0) (hK0 : q_J g m_X14_reach d mc ms h0 [] Q k n (q_kc (t, r, m, z, N, ext, rx, L) I E 55 [none, none, none] [] [(492, r0.1), (510, r0.2.1), (511, r0.2.2)] [])), q_J g m_X14_reach d mc ms h0 [] Q k n (20, [some (.ref 512), some (.int v1), none], [], q_hp (t, r, m, z, N, ext, rx, L) I E) := by
  intro fu
  induction fu with
  | zero =>
    intro I E v1 r0 hf hK0
    rw [f_X14_reach_L20] at hf
    cases hf
  | succ fu ih =>
    intro I E v1 r0 hf hK0
    rw [f_X14_reach_L20] at hf
    change q_J g m_X14_reach d mc ms h0 [] Q k n (q_kc (t, r, m, z, N, ext, rx, L) I E 20 [some (.ref 512), some (.int v1), none] [] [] [])
    refine q_blf 4 [] (a := q_kc (t, r, m, z, N, ext, rx, L) I E 55 [some (.ref 512), some (.int v1), none] [] [] []) (b := q_kc (t, r, m, z, N, ext, rx, L) I E 25 [some (.ref 512), some (.int v1), none] [] [] []) (P := ((I 492) 16) ≤ v1) ok_X14_reach rfl q_cn (fun h10 => ?_) (fun h10 => ?_)
    · have hf := q_ip h10 hf
      refine q_less (ls' := [none, none, none]) (q_sb1 (q_sb1 (q_sb1 q_sb0))) ?_
      cases hf
      exact q_Jpad [492, 510, 511] [] rfl rfl hK0
    · have hf := q_in h10 hf
      refine q_blk 2 [] (c' := q_kc (t, r, m, z, N, ext, rx, L) I E 27 [some (.ref 512), some (.int v1), some (.int (0 : Int32))] [] [] []) ok_X14_reach rfl q_cn ?_
      obtain ⟨r11, hr11, hf⟩ := q_bd hf
      refine lp_X14_reach_L27_512 (I := q_ws I []) (E := q_ws E []) hd hk hn 4096 hr11 ?_
      refine q_Jmrg (lI' := [(492, r11.1), (510, r11.2.1), (511, r11.2.2)]) (lE' := []) rfl rfl ?_
      refine q_blk 2 [] (c' := q_kc (t, r, m, z, N, ext, rx, L) I E 20 [some (.ref 512), some (.int (v1 + 1)), none] [] [(492, r11.1), (510, r11.2.1), (511, r11.2.2)] []) ok_X14_reach rfl q_cn ?_
      exact ih (I := q_ws I [(492, r11.1), (510, r11.2.1), (511, r11.2.2)]) (E := q_ws E []) hf (q_Jmrg rfl rfl hK0)
set_option maxHeartbeats 4000000 in
theorem ct_X14_reach_512 {g : q_G} {t : Nat} {r : Nat} {m : Nat} {z : Nat} {N : Nat} {ext : Nat → q_Sh} {rx : Nat → Nat → Option Nat} {L : Nat → Nat → Int64} {d : Nat} (hd : 2 ≤ d)  {I : Nat → Nat → Int32} {E : Nat → Nat → Option Nat} {r0 : (Nat → Int32) × (Nat → Int32) × (Nat → Int32)} (hf : f_X14_reach (I 492) (I 499) (I 510) (I 511) (I 513) (I 517) (I 519) = some r0) : q_Ct g m_X14_reach d 0 0 [] [.ref 512] (q_hp (t, r, m, z, N, ext, rx, L) I E) (fun o h' => o = .inl none ∧ h' = q_hp (t, r, m, z, N, ext, rx, L) (q_ws I [(492, r0.1), (510, r0.2.1), (511, r0.2.2)]) (q_ws E [])) := by
  rw [f_X14_reach] at hf
  refine q_Ct_of ok_X14_reach (Nat.le_of_ble_eq_true rfl) ?_ _ rfl rfl
  change q_J g m_X14_reach d 0 0 _ [] _ 0 0 (q_kc (t, r, m, z, N, ext, rx, L) I E 0 [some (.ref 512), none, none] [] [] [])
  refine q_blk 1 [] (c' := q_kc (t, r, m, z, N, ext, rx, L) I E 1 [some (.ref 512), none, none] [.ref 512] [] []) ok_X14_reach rfl q_cn ?_
  obtain ⟨r12, hr12, hf⟩ := q_bd hf
  refine q_kV (M2 := m_X14_forget) (As := []) (b := 512) (v2 := none) ok_X14_reach ok_X14_forget cv_X14_forget (ct_X14_forget_512 (d := 1) (Nat.le_refl _) hr12) rfl rfl (Or.inl rfl) rfl rfl rfl rfl (Nat.le_trans (Nat.le_of_ble_eq_true rfl) hd) (Nat.le_of_ble_eq_true rfl) (Nat.le_of_ble_eq_true rfl) (Nat.le_of_ble_eq_true rfl) (fun x hx => absurd hx List.not_mem_nil) (q_nmL0 _) (q_nmS0 _) rfl (pos' := 2) (st' := []) (lI' := [(492, r12.1), (511, r12.2)]) (lE' := []) rfl rfl rfl rfl ?_
  refine q_blk 2 [] (c' := q_kc (t, r, m, z, N, ext, rx, L) I E 4 [some (.ref 512), some (.int (0 : Int32)), none] [] [(492, r12.1), (511, r12.2)] []) ok_X14_reach rfl q_cn ?_
  obtain ⟨r13, hr13, hf⟩ := q_bd hf
  refine lp_X14_reach_L4_512 (I := q_ws I [(492, r12.1), (511, r12.2)]) (E := q_ws E []) hd (Nat.le_of_ble_eq_true rfl) (Nat.le_of_ble_eq_true rfl) 4096 hr13 ?_
  refine q_Jmrg (lI' := [(492, r13.1), (510, r13.2.1), (511, r13.2.2)]) (lE' := []) rfl rfl ?_
  refine q_blk 2 [] (c' := q_kc (t, r, m, z, N, ext, rx, L) I E 20 [some (.ref 512), some (.int (0 : Int32)), none] [] [(492, r13.1), (510, r13.2.1), (511, r13.2.2)] []) ok_X14_reach rfl q_cn ?_
  obtain ⟨r14, hr14, hf⟩ := q_bd hf
  refine lp_X14_reach_L20_512 (I := q_ws I [(492, r13.1), (510, r13.2.1), (511, r13.2.2)]) (E := q_ws E []) hd (Nat.le_of_ble_eq_true rfl) (Nat.le_of_ble_eq_true rfl) 4096 hr14 ?_
  refine q_Jmrg (lI' := [(492, r14.1), (510, r14.2.1), (511, r14.2.2)]) (lE' := []) rfl rfl ?_
  cases hf
  exact q_krv ok_X14_reach rfl rfl (Nat.le_of_ble_eq_true rfl) (Nat.le_of_ble_eq_true rfl) ⟨rfl, q_hpe (q_fin [492, 510, 511] rfl) (q_fin [] rfl)⟩
set_option maxHeartbeats 4000000 in
theorem ct_X14_useless_512 {g : q_G} {t : Nat} {r : Nat} {m : Nat} {z : Nat} {N : Nat} {ext : Nat → q_Sh} {rx : Nat → Nat → Option Nat} {L : Nat → Nat → Int64} {d : Nat} (hd : 3 ≤ d)  {I : Nat → Nat → Int32} {E : Nat → Nat → Option Nat} {r0 : Int32 × (Nat → Int32) × (Nat → Int32) × (Nat → Int32)} (hf : f_X14_useless (I 492) (I 499) (I 510) (I 511) (I 513) (I 514) (I 517) (I 519) = some r0) : q_Ct g m_X14_useless d 0 0 [] [.ref 512] (q_hp (t, r, m, z, N, ext, rx, L) I E) (fun o h' => o = .inl (some (.int r0.1)) ∧ h' = q_hp (t, r, m, z, N, ext, rx, L) (q_ws I [(492, r0.2.1), (510, r0.2.2.1), (511, r0.2.2.2)]) (q_ws E [])) := by
  rw [f_X14_useless] at hf
  refine q_Ct_of ok_X14_useless (Nat.le_of_ble_eq_true rfl) ?_ _ rfl rfl
  change q_J g m_X14_useless d 0 0 _ [] _ 0 0 (q_kc (t, r, m, z, N, ext, rx, L) I E 0 [some (.ref 512)] [] [] [])
  refine q_blk 1 [] (c' := q_kc (t, r, m, z, N, ext, rx, L) I E 1 [some (.ref 512)] [.ref 512] [] []) ok_X14_useless rfl q_cn ?_
  obtain ⟨r1, hr1, hf⟩ := q_bd hf
  refine q_kV (M2 := m_X14_reach) (As := []) (b := 512) (v2 := none) ok_X14_useless ok_X14_reach cv_X14_reach (ct_X14_reach_512 (d := 2) (Nat.le_refl _) hr1) rfl rfl (Or.inl rfl) rfl rfl rfl rfl (Nat.le_trans (Nat.le_of_ble_eq_true rfl) hd) (Nat.le_of_ble_eq_true rfl) (Nat.le_of_ble_eq_true rfl) (Nat.le_of_ble_eq_true rfl) (fun x hx => absurd hx List.not_mem_nil) (q_nmL0 _) (q_nmS0 _) rfl (pos' := 2) (st' := []) (lI' := [(492, r1.1), (510, r1.2.1), (511, r1.2.2)]) (lE' := []) rfl rfl rfl rfl ?_
  refine q_blk 1 [] (c' := q_kc (t, r, m, z, N, ext, rx, L) I E 3 [some (.ref 512)] [.ref 512] [(492, r1.1), (510, r1.2.1), (511, r1.2.2)] []) ok_X14_useless rfl q_cn ?_
  obtain ⟨r2, hr2, hf⟩ := q_bd hf
  refine q_kV (M2 := m_X14_bales_) (As := []) (b := 512) (v2 := some (.int r2)) ok_X14_useless ok_X14_bales_ cv_X14_bales_ (ct_X14_bales__512 (d := 2) (Nat.le_refl _) hr2) rfl rfl (Or.inl rfl) rfl rfl rfl rfl (Nat.le_trans (Nat.le_of_ble_eq_true rfl) hd) (Nat.le_of_ble_eq_true rfl) (Nat.le_of_ble_eq_true rfl) (Nat.le_of_ble_eq_true rfl) (fun x hx => absurd hx List.not_mem_nil) (q_nmL0 _) (q_nmS0 _) rfl (pos' := 4) (st' := [.int r2]) (lI' := [(492, r1.1), (510, r1.2.1), (511, r1.2.2)]) (lE' := []) rfl rfl rfl rfl ?_
  refine q_blk 4 [] (c' := q_kc (t, r, m, z, N, ext, rx, L) I E 8 [some (.ref 512)] [.int (r2 - (r1.1 16))] [(492, r1.1), (510, r1.2.1), (511, r1.2.2)] []) ok_X14_useless rfl q_cn ?_
  cases hf
  exact q_kri ok_X14_useless rfl rfl rfl (Nat.le_of_ble_eq_true rfl) (Nat.le_of_ble_eq_true rfl) ⟨rfl, q_hpe (q_fin [492, 510, 511] rfl) (q_fin [] rfl)⟩
set_option maxHeartbeats 4000000 in
theorem ct_X15_uselessBales_492 {g : q_G} {t : Nat} {r : Nat} {m : Nat} {z : Nat} {N : Nat} {ext : Nat → q_Sh} {rx : Nat → Nat → Option Nat} {L : Nat → Nat → Int64} {d : Nat} (hd : 4 ≤ d)  {I : Nat → Nat → Int32} {E : Nat → Nat → Option Nat} {r0 : Int32 × (Nat → Int32) × (Nat → Int32) × (Nat → Int32)} (hf : f_X15_uselessBales (I 492) (I 499) (I 510) (I 511) (I 513) (I 514) (I 517) (I 519) = some r0) : q_Ct g m_X15_uselessBales d 0 0 [] [.ref 492] (q_hp (t, r, m, z, N, ext, rx, L) I E) (fun o h' => o = .inl (some (.int r0.1)) ∧ h' = q_hp (t, r, m, z, N, ext, rx, L) (q_ws I [(492, r0.2.1), (510, r0.2.2.1), (511, r0.2.2.2)]) (q_ws E [])) := by
  rw [f_X15_uselessBales] at hf
  refine q_Ct_of ok_X15_uselessBales (Nat.le_of_ble_eq_true rfl) ?_ _ rfl rfl
  change q_J g m_X15_uselessBales d 0 0 _ [] _ 0 0 (q_kc (t, r, m, z, N, ext, rx, L) I E 0 [some (.ref 492)] [] [] [])
  refine q_blk 3 [] (c' := q_kc (t, r, m, z, N, ext, rx, L) I E 3 [some (.ref 492)] [.ref 512, .ref 492] [] []) ok_X15_uselessBales rfl q_cn ?_
  obtain ⟨r1, hr1, hf⟩ := q_bd hf
  refine q_kV (M2 := m_X14_useless) (As := []) (b := 512) (v2 := some (.int r1.1)) ok_X15_uselessBales ok_X14_useless cv_X14_useless (ct_X14_useless_512 (d := 3) (Nat.le_refl _) hr1) rfl rfl (Or.inl rfl) rfl rfl rfl rfl (Nat.le_trans (Nat.le_of_ble_eq_true rfl) hd) (Nat.le_of_ble_eq_true rfl) (Nat.le_of_ble_eq_true rfl) (Nat.le_of_ble_eq_true rfl) (fun x hx => absurd hx List.not_mem_nil) (q_nmL0 _) (q_nmS0 _) rfl (pos' := 4) (st' := [.int r1.1, .ref 492]) (lI' := [(492, r1.2.1), (510, r1.2.2.1), (511, r1.2.2.2)]) (lE' := []) rfl rfl rfl rfl ?_
  obtain ⟨r2, hr2, hf⟩ := q_bd hf
  refine q_kV (M2 := m_X15_ok) (As := [.int r1.1]) (b := 492) (v2 := some (.int r2.1)) ok_X15_uselessBales ok_X15_ok cv_X15_ok (ct_X15_ok_492 (d := 1) (Nat.le_refl _) hr2) rfl rfl (Or.inl rfl) rfl rfl rfl rfl (Nat.le_trans (Nat.le_of_ble_eq_true rfl) hd) (Nat.le_of_ble_eq_true rfl) (Nat.le_of_ble_eq_true rfl) (Nat.le_of_ble_eq_true rfl) (fun x hx => absurd hx List.not_mem_nil) (q_nmL0 _) (q_nmS0 _) rfl (pos' := 5) (st' := [.int r2.1]) (lI' := [(492, r2.2), (510, r1.2.2.1), (511, r1.2.2.2)]) (lE' := []) rfl rfl rfl rfl ?_
  cases hf
  exact q_kri ok_X15_uselessBales rfl rfl rfl (Nat.le_of_ble_eq_true rfl) (Nat.le_of_ble_eq_true rfl) ⟨rfl, q_hpe (q_fin [492, 510, 511] rfl) (q_fin [] rfl)⟩
set_option maxHeartbeats 4000000 in
theorem ct_X15_copyings_492 {g : q_G} {t : Nat} {r : Nat} {m : Nat} {z : Nat} {N : Nat} {ext : Nat → q_Sh} {rx : Nat → Nat → Option Nat} {L : Nat → Nat → Int64} {d : Nat} (hd : 2 ≤ d)  {I : Nat → Nat → Int32} {E : Nat → Nat → Option Nat} {r0 : Int32 × (Nat → Int32)} (hf : f_X15_copyings (I 492) (I 512) = some r0) : q_Ct g m_X15_copyings d 0 0 [] [.ref 492] (q_hp (t, r, m, z, N, ext, rx, L) I E) (fun o h' => o = .inl (some (.int r0.1)) ∧ h' = q_hp (t, r, m, z, N, ext, rx, L) (q_ws I [(492, r0.2)]) (q_ws E [])) := by
  rw [f_X15_copyings] at hf
  refine q_Ct_of ok_X15_copyings (Nat.le_of_ble_eq_true rfl) ?_ _ rfl rfl
  change q_J g m_X15_copyings d 0 0 _ [] _ 0 0 (q_kc (t, r, m, z, N, ext, rx, L) I E 0 [some (.ref 492)] [] [] [])
  refine q_blk 4 [] (c' := q_kc (t, r, m, z, N, ext, rx, L) I E 4 [some (.ref 492)] [.int ((I 512) 3), .ref 492] [] []) ok_X15_copyings rfl q_cn ?_
  obtain ⟨r1, hr1, hf⟩ := q_bd hf
  refine q_kV (M2 := m_X15_ok) (As := [.int ((I 512) 3)]) (b := 492) (v2 := some (.int r1.1)) ok_X15_copyings ok_X15_ok cv_X15_ok (ct_X15_ok_492 (d := 1) (Nat.le_refl _) hr1) rfl rfl (Or.inl rfl) rfl rfl rfl rfl (Nat.le_trans (Nat.le_of_ble_eq_true rfl) hd) (Nat.le_of_ble_eq_true rfl) (Nat.le_of_ble_eq_true rfl) (Nat.le_of_ble_eq_true rfl) (fun x hx => absurd hx List.not_mem_nil) (q_nmL0 _) (q_nmS0 _) rfl (pos' := 5) (st' := [.int r1.1]) (lI' := [(492, r1.2)]) (lE' := []) rfl rfl rfl rfl ?_
  cases hf
  exact q_kri ok_X15_copyings rfl rfl rfl (Nat.le_of_ble_eq_true rfl) (Nat.le_of_ble_eq_true rfl) ⟨rfl, q_hpe (q_fin [492] rfl) (q_fin [] rfl)⟩
set_option maxHeartbeats 4000000 in
theorem ct_X15_balesPromoted_492 {g : q_G} {t : Nat} {r : Nat} {m : Nat} {z : Nat} {N : Nat} {ext : Nat → q_Sh} {rx : Nat → Nat → Option Nat} {L : Nat → Nat → Int64} {d : Nat} (hd : 2 ≤ d)  {I : Nat → Nat → Int32} {E : Nat → Nat → Option Nat} {r0 : Int32 × (Nat → Int32)} (hf : f_X15_balesPromoted (I 492) (I 512) = some r0) : q_Ct g m_X15_balesPromoted d 0 0 [] [.ref 492] (q_hp (t, r, m, z, N, ext, rx, L) I E) (fun o h' => o = .inl (some (.int r0.1)) ∧ h' = q_hp (t, r, m, z, N, ext, rx, L) (q_ws I [(492, r0.2)]) (q_ws E [])) := by
  rw [f_X15_balesPromoted] at hf
  refine q_Ct_of ok_X15_balesPromoted (Nat.le_of_ble_eq_true rfl) ?_ _ rfl rfl
  change q_J g m_X15_balesPromoted d 0 0 _ [] _ 0 0 (q_kc (t, r, m, z, N, ext, rx, L) I E 0 [some (.ref 492)] [] [] [])
  refine q_blk 4 [] (c' := q_kc (t, r, m, z, N, ext, rx, L) I E 4 [some (.ref 492)] [.int ((I 512) 4), .ref 492] [] []) ok_X15_balesPromoted rfl q_cn ?_
  obtain ⟨r1, hr1, hf⟩ := q_bd hf
  refine q_kV (M2 := m_X15_ok) (As := [.int ((I 512) 4)]) (b := 492) (v2 := some (.int r1.1)) ok_X15_balesPromoted ok_X15_ok cv_X15_ok (ct_X15_ok_492 (d := 1) (Nat.le_refl _) hr1) rfl rfl (Or.inl rfl) rfl rfl rfl rfl (Nat.le_trans (Nat.le_of_ble_eq_true rfl) hd) (Nat.le_of_ble_eq_true rfl) (Nat.le_of_ble_eq_true rfl) (Nat.le_of_ble_eq_true rfl) (fun x hx => absurd hx List.not_mem_nil) (q_nmL0 _) (q_nmS0 _) rfl (pos' := 5) (st' := [.int r1.1]) (lI' := [(492, r1.2)]) (lE' := []) rfl rfl rfl rfl ?_
  cases hf
  exact q_kri ok_X15_balesPromoted rfl rfl rfl (Nat.le_of_ble_eq_true rfl) (Nat.le_of_ble_eq_true rfl) ⟨rfl, q_hpe (q_fin [492] rfl) (q_fin [] rfl)⟩
set_option maxHeartbeats 4000000 in
theorem ct_X15_balesGone_492 {g : q_G} {t : Nat} {r : Nat} {m : Nat} {z : Nat} {N : Nat} {ext : Nat → q_Sh} {rx : Nat → Nat → Option Nat} {L : Nat → Nat → Int64} {d : Nat} (hd : 2 ≤ d)  {I : Nat → Nat → Int32} {E : Nat → Nat → Option Nat} {r0 : Int32 × (Nat → Int32)} (hf : f_X15_balesGone (I 492) (I 512) = some r0) : q_Ct g m_X15_balesGone d 0 0 [] [.ref 492] (q_hp (t, r, m, z, N, ext, rx, L) I E) (fun o h' => o = .inl (some (.int r0.1)) ∧ h' = q_hp (t, r, m, z, N, ext, rx, L) (q_ws I [(492, r0.2)]) (q_ws E [])) := by
  rw [f_X15_balesGone] at hf
  refine q_Ct_of ok_X15_balesGone (Nat.le_of_ble_eq_true rfl) ?_ _ rfl rfl
  change q_J g m_X15_balesGone d 0 0 _ [] _ 0 0 (q_kc (t, r, m, z, N, ext, rx, L) I E 0 [some (.ref 492)] [] [] [])
  refine q_blk 4 [] (c' := q_kc (t, r, m, z, N, ext, rx, L) I E 4 [some (.ref 492)] [.int ((I 512) 5), .ref 492] [] []) ok_X15_balesGone rfl q_cn ?_
  obtain ⟨r1, hr1, hf⟩ := q_bd hf
  refine q_kV (M2 := m_X15_ok) (As := [.int ((I 512) 5)]) (b := 492) (v2 := some (.int r1.1)) ok_X15_balesGone ok_X15_ok cv_X15_ok (ct_X15_ok_492 (d := 1) (Nat.le_refl _) hr1) rfl rfl (Or.inl rfl) rfl rfl rfl rfl (Nat.le_trans (Nat.le_of_ble_eq_true rfl) hd) (Nat.le_of_ble_eq_true rfl) (Nat.le_of_ble_eq_true rfl) (Nat.le_of_ble_eq_true rfl) (fun x hx => absurd hx List.not_mem_nil) (q_nmL0 _) (q_nmS0 _) rfl (pos' := 5) (st' := [.int r1.1]) (lI' := [(492, r1.2)]) (lE' := []) rfl rfl rfl rfl ?_
  cases hf
  exact q_kri ok_X15_balesGone rfl rfl rfl (Nat.le_of_ble_eq_true rfl) (Nat.le_of_ble_eq_true rfl) ⟨rfl, q_hpe (q_fin [492] rfl) (q_fin [] rfl)⟩
set_option maxHeartbeats 4000000 in
theorem ct_X15_isHook_492 {g : q_G} {t : Nat} {r : Nat} {m : Nat} {z : Nat} {N : Nat} {ext : Nat → q_Sh} {rx : Nat → Nat → Option Nat} {L : Nat → Nat → Int64} {d : Nat} (hd : 2 ≤ d)  {I : Nat → Nat → Int32} {E : Nat → Nat → Option Nat} {x1 : Int32} {r0 : Bool} (hf : f_X15_isHook (I 499) x1 = some r0) : q_Ct g m_X15_isHook d 0 0 [] [.ref 492, .int x1] (q_hp (t, r, m, z, N, ext, rx, L) I E) (fun o h' => o = .inl (some (.int (q_bz r0))) ∧ h' = q_hp (t, r, m, z, N, ext, rx, L) (q_ws I []) (q_ws E [])) := by
  rw [f_X15_isHook] at hf
  refine q_Ct_of ok_X15_isHook (Nat.le_of_ble_eq_true rfl) ?_ _ rfl rfl
  change q_J g m_X15_isHook d 0 0 _ [] _ 0 0 (q_kc (t, r, m, z, N, ext, rx, L) I E 0 [some (.ref 492), some (.int x1)] [] [] [])
  refine q_blk 7 [] (c' := q_kc (t, r, m, z, N, ext, rx, L) I E 7 [some (.ref 492), some (.int x1)] [.int (((I 499) 0) - (1 : Int32)), .int (0 : Int32), .int x1] [] []) ok_X15_isHook rfl q_cn ?_
  obtain ⟨r1, hr1, hf⟩ := q_bd hf
  refine q_kS (M2 := m_X15_isIn) (As := [.int x1, .int (0 : Int32), .int (((I 499) 0) - (1 : Int32))]) (v2 := some (.int (q_bz r1))) ok_X15_isHook ok_X15_isIn cs_X15_isIn (ct_X15_isIn (d := 1) (Nat.le_refl _) hr1) rfl rfl (Or.inl rfl) (Nat.le_trans (Nat.le_of_ble_eq_true rfl) hd) (Nat.le_of_ble_eq_true rfl) (Nat.le_of_ble_eq_true rfl) (Nat.le_of_ble_eq_true rfl) (fun x hx => absurd hx List.not_mem_nil) (q_nmL0 _) (q_nmS0 _) rfl (pos' := 8) (st' := [.int (q_bz r1)]) (lI' := []) (lE' := []) rfl rfl rfl rfl ?_
  cases hf
  exact q_kri ok_X15_isHook rfl rfl (q_bz_nr _) (Nat.le_of_ble_eq_true rfl) (Nat.le_of_ble_eq_true rfl) ⟨rfl, q_hpe (q_fin [] rfl) (q_fin [] rfl)⟩
set_option maxHeartbeats 4000000 in
theorem ct_X15_isNot_492 {g : q_G} {t : Nat} {r : Nat} {m : Nat} {z : Nat} {N : Nat} {ext : Nat → q_Sh} {rx : Nat → Nat → Option Nat} {L : Nat → Nat → Int64} {d : Nat} (hd : 1 ≤ d)  {I : Nat → Nat → Int32} {E : Nat → Nat → Option Nat} {x1 : Int32} {r0 : Bool × (Nat → Int32)} (hf : f_X15_isNot (I 492) x1 = some r0) : q_Ct g m_X15_isNot d 0 0 [] [.ref 492, .int x1] (q_hp (t, r, m, z, N, ext, rx, L) I E) (fun o h' => o = .inl (some (.int (q_bz r0.1))) ∧ h' = q_hp (t, r, m, z, N, ext, rx, L) (q_ws I [(492, r0.2)]) (q_ws E [])) := by
  rw [f_X15_isNot] at hf
  refine q_Ct_of ok_X15_isNot (Nat.le_of_ble_eq_true rfl) ?_ _ rfl rfl
  change q_J g m_X15_isNot d 0 0 _ [] _ 0 0 (q_kc (t, r, m, z, N, ext, rx, L) I E 0 [some (.ref 492), some (.int x1)] [] [] [])
  refine q_blk 4 [] (c' := q_kc (t, r, m, z, N, ext, rx, L) I E 4 [some (.ref 492), some (.int x1)] [.int (0 : Int32)] [(492, (q_up (I 492) 0 x1))] []) ok_X15_isNot rfl q_cn ?_
  cases hf
  exact q_kri ok_X15_isNot rfl rfl rfl (Nat.le_of_ble_eq_true rfl) (Nat.le_of_ble_eq_true rfl) ⟨rfl, q_hpe (q_fin [492] rfl) (q_fin [] rfl)⟩
set_option maxHeartbeats 4000000 in
theorem ct_X15_holdsBale_492 {g : q_G} {t : Nat} {r : Nat} {m : Nat} {z : Nat} {N : Nat} {ext : Nat → q_Sh} {rx : Nat → Nat → Option Nat} {L : Nat → Nat → Int64} {d : Nat} (hd : 3 ≤ d)  {I : Nat → Nat → Int32} {E : Nat → Nat → Option Nat} {x1 : Int32} {r0 : Bool × (Nat → Int32)} (hf : f_X15_holdsBale (I 492) (I 499) (I 513) x1 = some r0) : q_Ct g m_X15_holdsBale d 0 0 [] [.ref 492, .int x1] (q_hp (t, r, m, z, N, ext, rx, L) I E) (fun o h' => o = .inl (some (.int (q_bz r0.1))) ∧ h' = q_hp (t, r, m, z, N, ext, rx, L) (q_ws I [(492, r0.2)]) (q_ws E [])) := by
  rw [f_X15_holdsBale] at hf
  refine q_Ct_of ok_X15_holdsBale (Nat.le_of_ble_eq_true rfl) ?_ _ rfl rfl
  change q_J g m_X15_holdsBale d 0 0 _ [] _ 0 0 (q_kc (t, r, m, z, N, ext, rx, L) I E 0 [some (.ref 492), some (.int x1)] [] [] [])
  refine q_blk 5 [] (c' := q_kc (t, r, m, z, N, ext, rx, L) I E 5 [some (.ref 492), some (.int x1)] [.int x1, .ref 492] [(492, (q_up (I 492) 0 (0 : Int32)))] []) ok_X15_holdsBale rfl q_cn ?_
  obtain ⟨r1, hr1, hf⟩ := q_bd hf
  refine q_kV (M2 := m_X15_isHook) (As := [.int x1]) (b := 492) (v2 := some (.int (q_bz r1))) ok_X15_holdsBale ok_X15_isHook cv_X15_isHook (ct_X15_isHook_492 (d := 2) (Nat.le_refl _) hr1) rfl rfl (Or.inl rfl) rfl rfl rfl rfl (Nat.le_trans (Nat.le_of_ble_eq_true rfl) hd) (Nat.le_of_ble_eq_true rfl) (Nat.le_of_ble_eq_true rfl) (Nat.le_of_ble_eq_true rfl) (fun x hx => absurd hx List.not_mem_nil) (q_nmL0 _) (q_nmS0 _) rfl (pos' := 6) (st' := [.int (q_bz r1)]) (lI' := [(492, (q_up (I 492) 0 (0 : Int32)))]) (lE' := []) rfl rfl rfl rfl ?_
  refine q_blf 0 [] (a := q_kc (t, r, m, z, N, ext, rx, L) I E 18 [some (.ref 492), some (.int x1)] [] [(492, (q_up (I 492) 0 (0 : Int32)))] []) (b := q_kc (t, r, m, z, N, ext, rx, L) I E 7 [some (.ref 492), some (.int x1)] [] [(492, (q_up (I 492) 0 (0 : Int32)))] []) (P := (q_bz r1) = 0) ok_X15_holdsBale rfl q_cn (fun h2 => ?_) (fun h2 => ?_)
  · have hf := q_ip h2 hf
    refine q_blk 2 [] (c' := q_kc (t, r, m, z, N, ext, rx, L) I E 20 [some (.ref 492), some (.int x1)] [.int (1 : Int32), .ref 492] [(492, (q_up (I 492) 0 (0 : Int32)))] []) ok_X15_holdsBale rfl q_cn ?_
    obtain ⟨r3, hr3, hf⟩ := q_bd hf
    refine q_kV (M2 := m_X15_isNot) (As := [.int (1 : Int32)]) (b := 492) (v2 := some (.int (q_bz r3.1))) ok_X15_holdsBale ok_X15_isNot cv_X15_isNot (ct_X15_isNot_492 (d := 1) (Nat.le_refl _) hr3) rfl rfl (Or.inl rfl) rfl rfl rfl rfl (Nat.le_trans (Nat.le_of_ble_eq_true rfl) hd) (Nat.le_of_ble_eq_true rfl) (Nat.le_of_ble_eq_true rfl) (Nat.le_of_ble_eq_true rfl) (fun x hx => absurd hx List.not_mem_nil) (q_nmL0 _) (q_nmS0 _) rfl (pos' := 21) (st' := [.int (q_bz r3.1)]) (lI' := [(492, r3.2)]) (lE' := []) rfl rfl rfl rfl ?_
    cases hf
    exact q_kri ok_X15_holdsBale rfl rfl (q_bz_nr _) (Nat.le_of_ble_eq_true rfl) (Nat.le_of_ble_eq_true rfl) ⟨rfl, q_hpe (q_fin [492] rfl) (q_fin [] rfl)⟩
  · have hf := q_in h2 hf
    obtain ⟨j4, hj4, hf⟩ := q_bd hf
    refine q_blf 6 [j4] (a := q_kc (t, r, m, z, N, ext, rx, L) I E 16 [some (.ref 492), some (.int x1)] [] [(492, (q_up (I 492) 0 (0 : Int32)))] []) (b := q_kc (t, r, m, z, N, ext, rx, L) I E 14 [some (.ref 492), some (.int x1)] [] [(492, (q_up (I 492) 0 (0 : Int32)))] []) (P := ((I 513) j4) = (-1 : Int32)) ok_X15_holdsBale rfl (q_cc hj4 q_cn) (fun h5 => ?_) (fun h5 => ?_)
    · have hf := q_ip h5 hf
      refine q_blk 2 [] (c' := q_kc (t, r, m, z, N, ext, rx, L) I E 21 [some (.ref 492), some (.int x1)] [.int (0 : Int32)] [(492, (q_up (I 492) 0 (0 : Int32)))] []) ok_X15_holdsBale rfl q_cn ?_
      cases hf
      exact q_kri ok_X15_holdsBale rfl rfl rfl (Nat.le_of_ble_eq_true rfl) (Nat.le_of_ble_eq_true rfl) ⟨rfl, q_hpe (q_fin [492] rfl) (q_fin [] rfl)⟩
    · have hf := q_in h5 hf
      refine q_blk 2 [] (c' := q_kc (t, r, m, z, N, ext, rx, L) I E 21 [some (.ref 492), some (.int x1)] [.int (1 : Int32)] [(492, (q_up (I 492) 0 (0 : Int32)))] []) ok_X15_holdsBale rfl q_cn ?_
      cases hf
      exact q_kri ok_X15_holdsBale rfl rfl rfl (Nat.le_of_ble_eq_true rfl) (Nat.le_of_ble_eq_true rfl) ⟨rfl, q_hpe (q_fin [492] rfl) (q_fin [] rfl)⟩
set_option maxHeartbeats 4000000 in
theorem ct_X15_bale_492 {g : q_G} {t : Nat} {r : Nat} {m : Nat} {z : Nat} {N : Nat} {ext : Nat → q_Sh} {rx : Nat → Nat → Option Nat} {L : Nat → Nat → Int64} {d : Nat} (hd : 3 ≤ d)  {I : Nat → Nat → Int32} {E : Nat → Nat → Option Nat} {x1 : Int32} {r0 : Int32 × (Nat → Int32)} (hf : f_X15_bale (I 492) (I 499) (I 513) x1 = some r0) : q_Ct g m_X15_bale d 0 0 [] [.ref 492, .int x1] (q_hp (t, r, m, z, N, ext, rx, L) I E) (fun o h' => o = .inl (some (.int r0.1)) ∧ h' = q_hp (t, r, m, z, N, ext, rx, L) (q_ws I [(492, r0.2)]) (q_ws E [])) := by
  rw [f_X15_bale] at hf
  refine q_Ct_of ok_X15_bale (Nat.le_of_ble_eq_true rfl) ?_ _ rfl rfl
  change q_J g m_X15_bale d 0 0 _ [] _ 0 0 (q_kc (t, r, m, z, N, ext, rx, L) I E 0 [some (.ref 492), some (.int x1)] [] [] [])
  refine q_blk 3 [] (c' := q_kc (t, r, m, z, N, ext, rx, L) I E 3 [some (.ref 492), some (.int x1)] [.int x1, .ref 492, .ref 492] [] []) ok_X15_bale rfl q_cn ?_
  obtain ⟨r1, hr1, hf⟩ := q_bd hf
  refine q_kV (M2 := m_X15_isHook) (As := [.int x1]) (b := 492) (v2 := some (.int (q_bz r1))) ok_X15_bale ok_X15_isHook cv_X15_isHook (ct_X15_isHook_492 (d := 2) (Nat.le_refl _) hr1) rfl rfl (Or.inl rfl) rfl rfl rfl rfl (Nat.le_trans (Nat.le_of_ble_eq_true rfl) hd) (Nat.le_of_ble_eq_true rfl) (Nat.le_of_ble_eq_true rfl) (Nat.le_of_ble_eq_true rfl) (fun x hx => absurd hx List.not_mem_nil) (q_nmL0 _) (q_nmS0 _) rfl (pos' := 4) (st' := [.int (q_bz r1), .ref 492]) (lI' := []) (lE' := []) rfl rfl rfl rfl ?_
  refine q_blf 0 [] (a := q_kc (t, r, m, z, N, ext, rx, L) I E 7 [some (.ref 492), some (.int x1)] [.ref 492] [] []) (b := q_kc (t, r, m, z, N, ext, rx, L) I E 5 [some (.ref 492), some (.int x1)] [.ref 492] [] []) (P := ¬ (q_bz r1) = 0) ok_X15_bale rfl q_cn (fun h2 => ?_) (fun h2 => ?_)
  · have hf := q_ip h2 hf
    obtain ⟨j3, hj3, hf⟩ := q_bd hf
    refine q_blf 6 [j3] (a := q_kc (t, r, m, z, N, ext, rx, L) I E 16 [some (.ref 492), some (.int x1)] [.ref 492] [] []) (b := q_kc (t, r, m, z, N, ext, rx, L) I E 14 [some (.ref 492), some (.int x1)] [.ref 492] [] []) (P := ¬ ((I 513) j3) = (-1 : Int32)) ok_X15_bale rfl (q_cc hj3 q_cn) (fun h4 => ?_) (fun h4 => ?_)
    · have hf := q_ip h4 hf
      refine q_blf 4 [] (a := q_kc (t, r, m, z, N, ext, rx, L) I E 27 [some (.ref 492), some (.int x1)] [] [(492, (q_up (I 492) 0 (0 : Int32)))] []) (b := q_kc (t, r, m, z, N, ext, rx, L) I E 21 [some (.ref 492), some (.int x1)] [] [(492, (q_up (I 492) 0 (0 : Int32)))] []) (P := ¬ ((q_up (I 492) 0 (0 : Int32)) 0) = 0) ok_X15_bale rfl q_cn (fun h5 => ?_) (fun h5 => ?_)
      · have hf := q_ip h5 hf
        refine q_blk 1 [] (c' := q_kc (t, r, m, z, N, ext, rx, L) I E 28 [some (.ref 492), some (.int x1)] [.int (-1 : Int32)] [(492, (q_up (I 492) 0 (0 : Int32)))] []) ok_X15_bale rfl q_cn ?_
        cases hf
        exact q_kri ok_X15_bale rfl rfl rfl (Nat.le_of_ble_eq_true rfl) (Nat.le_of_ble_eq_true rfl) ⟨rfl, q_hpe (q_fin [492] rfl) (q_fin [] rfl)⟩
      · have hf := q_in h5 hf
        obtain ⟨j6, hj6, hf⟩ := q_bd hf
        refine q_blk 6 [j6] (c' := q_kc (t, r, m, z, N, ext, rx, L) I E 28 [some (.ref 492), some (.int x1)] [.int ((I 513) j6)] [(492, (q_up (I 492) 0 (0 : Int32)))] []) ok_X15_bale rfl (q_cc hj6 q_cn) ?_
        cases hf
        exact q_kri ok_X15_bale rfl rfl rfl (Nat.le_of_ble_eq_true rfl) (Nat.le_of_ble_eq_true rfl) ⟨rfl, q_hpe (q_fin [492] rfl) (q_fin [] rfl)⟩
    · have hf := q_in h4 hf
      refine q_blf 5 [] (a := q_kc (t, r, m, z, N, ext, rx, L) I E 27 [some (.ref 492), some (.int x1)] [] [(492, (q_up (I 492) 0 (2 : Int32)))] []) (b := q_kc (t, r, m, z, N, ext, rx, L) I E 21 [some (.ref 492), some (.int x1)] [] [(492, (q_up (I 492) 0 (2 : Int32)))] []) (P := ¬ ((q_up (I 492) 0 (2 : Int32)) 0) = 0) ok_X15_bale rfl q_cn (fun h7 => ?_) (fun h7 => ?_)
      · have hf := q_ip h7 hf
        refine q_blk 1 [] (c' := q_kc (t, r, m, z, N, ext, rx, L) I E 28 [some (.ref 492), some (.int x1)] [.int (-1 : Int32)] [(492, (q_up (I 492) 0 (2 : Int32)))] []) ok_X15_bale rfl q_cn ?_
        cases hf
        exact q_kri ok_X15_bale rfl rfl rfl (Nat.le_of_ble_eq_true rfl) (Nat.le_of_ble_eq_true rfl) ⟨rfl, q_hpe (q_fin [492] rfl) (q_fin [] rfl)⟩
      · have hf := q_in h7 hf
        obtain ⟨j8, hj8, hf⟩ := q_bd hf
        refine q_blk 6 [j8] (c' := q_kc (t, r, m, z, N, ext, rx, L) I E 28 [some (.ref 492), some (.int x1)] [.int ((I 513) j8)] [(492, (q_up (I 492) 0 (2 : Int32)))] []) ok_X15_bale rfl (q_cc hj8 q_cn) ?_
        cases hf
        exact q_kri ok_X15_bale rfl rfl rfl (Nat.le_of_ble_eq_true rfl) (Nat.le_of_ble_eq_true rfl) ⟨rfl, q_hpe (q_fin [492] rfl) (q_fin [] rfl)⟩
  · have hf := q_in h2 hf
    refine q_blf 5 [] (a := q_kc (t, r, m, z, N, ext, rx, L) I E 27 [some (.ref 492), some (.int x1)] [] [(492, (q_up (I 492) 0 (1 : Int32)))] []) (b := q_kc (t, r, m, z, N, ext, rx, L) I E 21 [some (.ref 492), some (.int x1)] [] [(492, (q_up (I 492) 0 (1 : Int32)))] []) (P := ¬ ((q_up (I 492) 0 (1 : Int32)) 0) = 0) ok_X15_bale rfl q_cn (fun h9 => ?_) (fun h9 => ?_)
    · have hf := q_ip h9 hf
      refine q_blk 1 [] (c' := q_kc (t, r, m, z, N, ext, rx, L) I E 28 [some (.ref 492), some (.int x1)] [.int (-1 : Int32)] [(492, (q_up (I 492) 0 (1 : Int32)))] []) ok_X15_bale rfl q_cn ?_
      cases hf
      exact q_kri ok_X15_bale rfl rfl rfl (Nat.le_of_ble_eq_true rfl) (Nat.le_of_ble_eq_true rfl) ⟨rfl, q_hpe (q_fin [492] rfl) (q_fin [] rfl)⟩
    · have hf := q_in h9 hf
      obtain ⟨j10, hj10, hf⟩ := q_bd hf
      refine q_blk 6 [j10] (c' := q_kc (t, r, m, z, N, ext, rx, L) I E 28 [some (.ref 492), some (.int x1)] [.int ((I 513) j10)] [(492, (q_up (I 492) 0 (1 : Int32)))] []) ok_X15_bale rfl (q_cc hj10 q_cn) ?_
      cases hf
      exact q_kri ok_X15_bale rfl rfl rfl (Nat.le_of_ble_eq_true rfl) (Nat.le_of_ble_eq_true rfl) ⟨rfl, q_hpe (q_fin [492] rfl) (q_fin [] rfl)⟩
set_option maxHeartbeats 4000000 in
theorem ct_X15_of_492_515 {g : q_G} {t : Nat} {r : Nat} {m : Nat} {z : Nat} {N : Nat} {ext : Nat → q_Sh} {rx : Nat → Nat → Option Nat} {L : Nat → Nat → Int64} {d : Nat} (hd : 4 ≤ d)  {I : Nat → Nat → Int32} {E : Nat → Nat → Option Nat} {x1 : Int32} {r0 : Int32 × (Nat → Int32)} (hf : f_X15_of (I 492) (I 499) (I 513) (I 515) x1 = some r0) : q_Ct g m_X15_of d 0 0 [] [.ref 492, .int x1, .ref 515] (q_hp (t, r, m, z, N, ext, rx, L) I E) (fun o h' => o = .inl (some (.int r0.1)) ∧ h' = q_hp (t, r, m, z, N, ext, rx, L) (q_ws I [(492, r0.2)]) (q_ws E [])) := by
  rw [f_X15_of] at hf
  refine q_Ct_of ok_X15_of (Nat.le_of_ble_eq_true rfl) ?_ _ rfl rfl
  change q_J g m_X15_of d 0 0 _ [] _ 0 0 (q_kc (t, r, m, z, N, ext, rx, L) I E 0 [some (.ref 492), some (.int x1), some (.ref 515), none] [] [] [])
  refine q_blk 2 [] (c' := q_kc (t, r, m, z, N, ext, rx, L) I E 2 [some (.ref 492), some (.int x1), some (.ref 515), none] [.int x1, .ref 492] [] []) ok_X15_of rfl q_cn ?_
  obtain ⟨r1, hr1, hf⟩ := q_bd hf
  refine q_kV (M2 := m_X15_bale) (As := [.int x1]) (b := 492) (v2 := some (.int r1.1)) ok_X15_of ok_X15_bale cv_X15_bale (ct_X15_bale_492 (d := 3) (Nat.le_refl _) hr1) rfl rfl (Or.inl rfl) rfl rfl rfl rfl (Nat.le_trans (Nat.le_of_ble_eq_true rfl) hd) (Nat.le_of_ble_eq_true rfl) (Nat.le_of_ble_eq_true rfl) (Nat.le_of_ble_eq_true rfl) (fun x hx => absurd hx List.not_mem_nil) (q_nmL0 _) (q_nmS0 _) rfl (pos' := 3) (st' := [.int r1.1]) (lI' := [(492, r1.2)]) (lE' := []) rfl rfl rfl rfl ?_
  refine q_blf 3 [] (a := q_kc (t, r, m, z, N, ext, rx, L) I E 9 [some (.ref 492), some (.int x1), some (.ref 515), some (.int r1.1)] [] [(492, r1.2)] []) (b := q_kc (t, r, m, z, N, ext, rx, L) I E 7 [some (.ref 492), some (.int x1), some (.ref 515), some (.int r1.1)] [] [(492, r1.2)] []) (P := ¬ r1.1 = (-1 : Int32)) ok_X15_of rfl q_cn (fun h2 => ?_) (fun h2 => ?_)
  · have hf := q_ip h2 hf
    obtain ⟨j3, hj3, hf⟩ := q_bd hf
    refine q_blk 3 [j3] (c' := q_kc (t, r, m, z, N, ext, rx, L) I E 12 [some (.ref 492), some (.int x1), some (.ref 515), some (.int r1.1)] [.int ((I 515) j3)] [(492, r1.2)] []) ok_X15_of rfl (q_cc hj3 q_cn) ?_
    cases hf
    exact q_kri ok_X15_of rfl rfl rfl (Nat.le_of_ble_eq_true rfl) (Nat.le_of_ble_eq_true rfl) ⟨rfl, q_hpe (q_fin [492] rfl) (q_fin [] rfl)⟩
  · have hf := q_in h2 hf
    refine q_blk 2 [] (c' := q_kc (t, r, m, z, N, ext, rx, L) I E 12 [some (.ref 492), some (.int x1), some (.ref 515), some (.int r1.1)] [.int (0 : Int32)] [(492, r1.2)] []) ok_X15_of rfl q_cn ?_
    cases hf
    exact q_kri ok_X15_of rfl rfl rfl (Nat.le_of_ble_eq_true rfl) (Nat.le_of_ble_eq_true rfl) ⟨rfl, q_hpe (q_fin [492] rfl) (q_fin [] rfl)⟩
set_option maxHeartbeats 4000000 in
theorem ct_X15_placeOf_492 {g : q_G} {t : Nat} {r : Nat} {m : Nat} {z : Nat} {N : Nat} {ext : Nat → q_Sh} {rx : Nat → Nat → Option Nat} {L : Nat → Nat → Int64} {d : Nat} (hd : 5 ≤ d)  {I : Nat → Nat → Int32} {E : Nat → Nat → Option Nat} {x1 : Int32} {r0 : Int32 × (Nat → Int32)} (hf : f_X15_placeOf (I 492) (I 499) (I 513) (I 515) x1 = some r0) : q_Ct g m_X15_placeOf d 0 0 [] [.ref 492, .int x1] (q_hp (t, r, m, z, N, ext, rx, L) I E) (fun o h' => o = .inl (some (.int r0.1)) ∧ h' = q_hp (t, r, m, z, N, ext, rx, L) (q_ws I [(492, r0.2)]) (q_ws E [])) := by
  rw [f_X15_placeOf] at hf
  refine q_Ct_of ok_X15_placeOf (Nat.le_of_ble_eq_true rfl) ?_ _ rfl rfl
  change q_J g m_X15_placeOf d 0 0 _ [] _ 0 0 (q_kc (t, r, m, z, N, ext, rx, L) I E 0 [some (.ref 492), some (.int x1)] [] [] [])
  refine q_blk 5 [] (c' := q_kc (t, r, m, z, N, ext, rx, L) I E 5 [some (.ref 492), some (.int x1)] [.ref 515, .int x1, .ref 492] [] []) ok_X15_placeOf rfl q_cn ?_
  obtain ⟨r1, hr1, hf⟩ := q_bd hf
  refine q_kV (M2 := m_X15_of) (As := [.int x1, .ref 515]) (b := 492) (v2 := some (.int r1.1)) ok_X15_placeOf ok_X15_of cv_X15_of (ct_X15_of_492_515 (d := 4) (Nat.le_refl _) hr1) rfl rfl (Or.inl rfl) rfl rfl rfl rfl (Nat.le_trans (Nat.le_of_ble_eq_true rfl) hd) (Nat.le_of_ble_eq_true rfl) (Nat.le_of_ble_eq_true rfl) (Nat.le_of_ble_eq_true rfl) (fun x hx => absurd hx List.not_mem_nil) (q_nmL0 _) (q_nmS0 _) rfl (pos' := 6) (st' := [.int r1.1]) (lI' := [(492, r1.2)]) (lE' := []) rfl rfl rfl rfl ?_
  cases hf
  exact q_kri ok_X15_placeOf rfl rfl rfl (Nat.le_of_ble_eq_true rfl) (Nat.le_of_ble_eq_true rfl) ⟨rfl, q_hpe (q_fin [492] rfl) (q_fin [] rfl)⟩
set_option maxHeartbeats 4000000 in
theorem ct_X15_of_492_516 {g : q_G} {t : Nat} {r : Nat} {m : Nat} {z : Nat} {N : Nat} {ext : Nat → q_Sh} {rx : Nat → Nat → Option Nat} {L : Nat → Nat → Int64} {d : Nat} (hd : 4 ≤ d)  {I : Nat → Nat → Int32} {E : Nat → Nat → Option Nat} {x1 : Int32} {r0 : Int32 × (Nat → Int32)} (hf : f_X15_of__2 (I 492) (I 499) (I 513) (I 516) x1 = some r0) : q_Ct g m_X15_of d 0 0 [] [.ref 492, .int x1, .ref 516] (q_hp (t, r, m, z, N, ext, rx, L) I E) (fun o h' => o = .inl (some (.int r0.1)) ∧ h' = q_hp (t, r, m, z, N, ext, rx, L) (q_ws I [(492, r0.2)]) (q_ws E [])) := by
  rw [f_X15_of__2] at hf
  refine q_Ct_of ok_X15_of (Nat.le_of_ble_eq_true rfl) ?_ _ rfl rfl
  change q_J g m_X15_of d 0 0 _ [] _ 0 0 (q_kc (t, r, m, z, N, ext, rx, L) I E 0 [some (.ref 492), some (.int x1), some (.ref 516), none] [] [] [])
  refine q_blk 2 [] (c' := q_kc (t, r, m, z, N, ext, rx, L) I E 2 [some (.ref 492), some (.int x1), some (.ref 516), none] [.int x1, .ref 492] [] []) ok_X15_of rfl q_cn ?_
  obtain ⟨r1, hr1, hf⟩ := q_bd hf
  refine q_kV (M2 := m_X15_bale) (As := [.int x1]) (b := 492) (v2 := some (.int r1.1)) ok_X15_of ok_X15_bale cv_X15_bale (ct_X15_bale_492 (d := 3) (Nat.le_refl _) hr1) rfl rfl (Or.inl rfl) rfl rfl rfl rfl (Nat.le_trans (Nat.le_of_ble_eq_true rfl) hd) (Nat.le_of_ble_eq_true rfl) (Nat.le_of_ble_eq_true rfl) (Nat.le_of_ble_eq_true rfl) (fun x hx => absurd hx List.not_mem_nil) (q_nmL0 _) (q_nmS0 _) rfl (pos' := 3) (st' := [.int r1.1]) (lI' := [(492, r1.2)]) (lE' := []) rfl rfl rfl rfl ?_
  refine q_blf 3 [] (a := q_kc (t, r, m, z, N, ext, rx, L) I E 9 [some (.ref 492), some (.int x1), some (.ref 516), some (.int r1.1)] [] [(492, r1.2)] []) (b := q_kc (t, r, m, z, N, ext, rx, L) I E 7 [some (.ref 492), some (.int x1), some (.ref 516), some (.int r1.1)] [] [(492, r1.2)] []) (P := ¬ r1.1 = (-1 : Int32)) ok_X15_of rfl q_cn (fun h2 => ?_) (fun h2 => ?_)
  · have hf := q_ip h2 hf
    obtain ⟨j3, hj3, hf⟩ := q_bd hf
    refine q_blk 3 [j3] (c' := q_kc (t, r, m, z, N, ext, rx, L) I E 12 [some (.ref 492), some (.int x1), some (.ref 516), some (.int r1.1)] [.int ((I 516) j3)] [(492, r1.2)] []) ok_X15_of rfl (q_cc hj3 q_cn) ?_
    cases hf
    exact q_kri ok_X15_of rfl rfl rfl (Nat.le_of_ble_eq_true rfl) (Nat.le_of_ble_eq_true rfl) ⟨rfl, q_hpe (q_fin [492] rfl) (q_fin [] rfl)⟩
  · have hf := q_in h2 hf
    refine q_blk 2 [] (c' := q_kc (t, r, m, z, N, ext, rx, L) I E 12 [some (.ref 492), some (.int x1), some (.ref 516), some (.int r1.1)] [.int (0 : Int32)] [(492, r1.2)] []) ok_X15_of rfl q_cn ?_
    cases hf
    exact q_kri ok_X15_of rfl rfl rfl (Nat.le_of_ble_eq_true rfl) (Nat.le_of_ble_eq_true rfl) ⟨rfl, q_hpe (q_fin [492] rfl) (q_fin [] rfl)⟩
set_option maxHeartbeats 4000000 in
theorem ct_X15_sizeOf_492 {g : q_G} {t : Nat} {r : Nat} {m : Nat} {z : Nat} {N : Nat} {ext : Nat → q_Sh} {rx : Nat → Nat → Option Nat} {L : Nat → Nat → Int64} {d : Nat} (hd : 5 ≤ d)  {I : Nat → Nat → Int32} {E : Nat → Nat → Option Nat} {x1 : Int32} {r0 : Int32 × (Nat → Int32)} (hf : f_X15_sizeOf (I 492) (I 499) (I 513) (I 516) x1 = some r0) : q_Ct g m_X15_sizeOf d 0 0 [] [.ref 492, .int x1] (q_hp (t, r, m, z, N, ext, rx, L) I E) (fun o h' => o = .inl (some (.int r0.1)) ∧ h' = q_hp (t, r, m, z, N, ext, rx, L) (q_ws I [(492, r0.2)]) (q_ws E [])) := by
  rw [f_X15_sizeOf] at hf
  refine q_Ct_of ok_X15_sizeOf (Nat.le_of_ble_eq_true rfl) ?_ _ rfl rfl
  change q_J g m_X15_sizeOf d 0 0 _ [] _ 0 0 (q_kc (t, r, m, z, N, ext, rx, L) I E 0 [some (.ref 492), some (.int x1)] [] [] [])
  refine q_blk 5 [] (c' := q_kc (t, r, m, z, N, ext, rx, L) I E 5 [some (.ref 492), some (.int x1)] [.ref 516, .int x1, .ref 492] [] []) ok_X15_sizeOf rfl q_cn ?_
  obtain ⟨r1, hr1, hf⟩ := q_bd hf
  refine q_kV (M2 := m_X15_of) (As := [.int x1, .ref 516]) (b := 492) (v2 := some (.int r1.1)) ok_X15_sizeOf ok_X15_of cv_X15_of (ct_X15_of_492_516 (d := 4) (Nat.le_refl _) hr1) rfl rfl (Or.inl rfl) rfl rfl rfl rfl (Nat.le_trans (Nat.le_of_ble_eq_true rfl) hd) (Nat.le_of_ble_eq_true rfl) (Nat.le_of_ble_eq_true rfl) (Nat.le_of_ble_eq_true rfl) (fun x hx => absurd hx List.not_mem_nil) (q_nmL0 _) (q_nmS0 _) rfl (pos' := 6) (st' := [.int r1.1]) (lI' := [(492, r1.2)]) (lE' := []) rfl rfl rfl rfl ?_
  cases hf
  exact q_kri ok_X15_sizeOf rfl rfl rfl (Nat.le_of_ble_eq_true rfl) (Nat.le_of_ble_eq_true rfl) ⟨rfl, q_hpe (q_fin [492] rfl) (q_fin [] rfl)⟩
set_option maxHeartbeats 4000000 in
theorem ct_X15_of_492_517 {g : q_G} {t : Nat} {r : Nat} {m : Nat} {z : Nat} {N : Nat} {ext : Nat → q_Sh} {rx : Nat → Nat → Option Nat} {L : Nat → Nat → Int64} {d : Nat} (hd : 4 ≤ d)  {I : Nat → Nat → Int32} {E : Nat → Nat → Option Nat} {x1 : Int32} {r0 : Int32 × (Nat → Int32)} (hf : f_X15_of__3 (I 492) (I 499) (I 513) (I 517) x1 = some r0) : q_Ct g m_X15_of d 0 0 [] [.ref 492, .int x1, .ref 517] (q_hp (t, r, m, z, N, ext, rx, L) I E) (fun o h' => o = .inl (some (.int r0.1)) ∧ h' = q_hp (t, r, m, z, N, ext, rx, L) (q_ws I [(492, r0.2)]) (q_ws E [])) := by
  rw [f_X15_of__3] at hf
  refine q_Ct_of ok_X15_of (Nat.le_of_ble_eq_true rfl) ?_ _ rfl rfl
  change q_J g m_X15_of d 0 0 _ [] _ 0 0 (q_kc (t, r, m, z, N, ext, rx, L) I E 0 [some (.ref 492), some (.int x1), some (.ref 517), none] [] [] [])
  refine q_blk 2 [] (c' := q_kc (t, r, m, z, N, ext, rx, L) I E 2 [some (.ref 492), some (.int x1), some (.ref 517), none] [.int x1, .ref 492] [] []) ok_X15_of rfl q_cn ?_
  obtain ⟨r1, hr1, hf⟩ := q_bd hf
  refine q_kV (M2 := m_X15_bale) (As := [.int x1]) (b := 492) (v2 := some (.int r1.1)) ok_X15_of ok_X15_bale cv_X15_bale (ct_X15_bale_492 (d := 3) (Nat.le_refl _) hr1) rfl rfl (Or.inl rfl) rfl rfl rfl rfl (Nat.le_trans (Nat.le_of_ble_eq_true rfl) hd) (Nat.le_of_ble_eq_true rfl) (Nat.le_of_ble_eq_true rfl) (Nat.le_of_ble_eq_true rfl) (fun x hx => absurd hx List.not_mem_nil) (q_nmL0 _) (q_nmS0 _) rfl (pos' := 3) (st' := [.int r1.1]) (lI' := [(492, r1.2)]) (lE' := []) rfl rfl rfl rfl ?_
  refine q_blf 3 [] (a := q_kc (t, r, m, z, N, ext, rx, L) I E 9 [some (.ref 492), some (.int x1), some (.ref 517), some (.int r1.1)] [] [(492, r1.2)] []) (b := q_kc (t, r, m, z, N, ext, rx, L) I E 7 [some (.ref 492), some (.int x1), some (.ref 517), some (.int r1.1)] [] [(492, r1.2)] []) (P := ¬ r1.1 = (-1 : Int32)) ok_X15_of rfl q_cn (fun h2 => ?_) (fun h2 => ?_)
  · have hf := q_ip h2 hf
    obtain ⟨j3, hj3, hf⟩ := q_bd hf
    refine q_blk 3 [j3] (c' := q_kc (t, r, m, z, N, ext, rx, L) I E 12 [some (.ref 492), some (.int x1), some (.ref 517), some (.int r1.1)] [.int ((I 517) j3)] [(492, r1.2)] []) ok_X15_of rfl (q_cc hj3 q_cn) ?_
    cases hf
    exact q_kri ok_X15_of rfl rfl rfl (Nat.le_of_ble_eq_true rfl) (Nat.le_of_ble_eq_true rfl) ⟨rfl, q_hpe (q_fin [492] rfl) (q_fin [] rfl)⟩
  · have hf := q_in h2 hf
    refine q_blk 2 [] (c' := q_kc (t, r, m, z, N, ext, rx, L) I E 12 [some (.ref 492), some (.int x1), some (.ref 517), some (.int r1.1)] [.int (0 : Int32)] [(492, r1.2)] []) ok_X15_of rfl q_cn ?_
    cases hf
    exact q_kri ok_X15_of rfl rfl rfl (Nat.le_of_ble_eq_true rfl) (Nat.le_of_ble_eq_true rfl) ⟨rfl, q_hpe (q_fin [492] rfl) (q_fin [] rfl)⟩
set_option maxHeartbeats 4000000 in
theorem ct_X15_ropesOf_492 {g : q_G} {t : Nat} {r : Nat} {m : Nat} {z : Nat} {N : Nat} {ext : Nat → q_Sh} {rx : Nat → Nat → Option Nat} {L : Nat → Nat → Int64} {d : Nat} (hd : 5 ≤ d)  {I : Nat → Nat → Int32} {E : Nat → Nat → Option Nat} {x1 : Int32} {r0 : Int32 × (Nat → Int32)} (hf : f_X15_ropesOf (I 492) (I 499) (I 513) (I 517) x1 = some r0) : q_Ct g m_X15_ropesOf d 0 0 [] [.ref 492, .int x1] (q_hp (t, r, m, z, N, ext, rx, L) I E) (fun o h' => o = .inl (some (.int r0.1)) ∧ h' = q_hp (t, r, m, z, N, ext, rx, L) (q_ws I [(492, r0.2)]) (q_ws E [])) := by
  rw [f_X15_ropesOf] at hf
  refine q_Ct_of ok_X15_ropesOf (Nat.le_of_ble_eq_true rfl) ?_ _ rfl rfl
  change q_J g m_X15_ropesOf d 0 0 _ [] _ 0 0 (q_kc (t, r, m, z, N, ext, rx, L) I E 0 [some (.ref 492), some (.int x1)] [] [] [])
  refine q_blk 5 [] (c' := q_kc (t, r, m, z, N, ext, rx, L) I E 5 [some (.ref 492), some (.int x1)] [.ref 517, .int x1, .ref 492] [] []) ok_X15_ropesOf rfl q_cn ?_
  obtain ⟨r1, hr1, hf⟩ := q_bd hf
  refine q_kV (M2 := m_X15_of) (As := [.int x1, .ref 517]) (b := 492) (v2 := some (.int r1.1)) ok_X15_ropesOf ok_X15_of cv_X15_of (ct_X15_of_492_517 (d := 4) (Nat.le_refl _) hr1) rfl rfl (Or.inl rfl) rfl rfl rfl rfl (Nat.le_trans (Nat.le_of_ble_eq_true rfl) hd) (Nat.le_of_ble_eq_true rfl) (Nat.le_of_ble_eq_true rfl) (Nat.le_of_ble_eq_true rfl) (fun x hx => absurd hx List.not_mem_nil) (q_nmL0 _) (q_nmS0 _) rfl (pos' := 6) (st' := [.int r1.1]) (lI' := [(492, r1.2)]) (lE' := []) rfl rfl rfl rfl ?_
  cases hf
  exact q_kri ok_X15_ropesOf rfl rfl rfl (Nat.le_of_ble_eq_true rfl) (Nat.le_of_ble_eq_true rfl) ⟨rfl, q_hpe (q_fin [492] rfl) (q_fin [] rfl)⟩
set_option maxHeartbeats 4000000 in
theorem ct_X15_of_492_518 {g : q_G} {t : Nat} {r : Nat} {m : Nat} {z : Nat} {N : Nat} {ext : Nat → q_Sh} {rx : Nat → Nat → Option Nat} {L : Nat → Nat → Int64} {d : Nat} (hd : 4 ≤ d)  {I : Nat → Nat → Int32} {E : Nat → Nat → Option Nat} {x1 : Int32} {r0 : Int32 × (Nat → Int32)} (hf : f_X15_of__4 (I 492) (I 499) (I 513) (I 518) x1 = some r0) : q_Ct g m_X15_of d 0 0 [] [.ref 492, .int x1, .ref 518] (q_hp (t, r, m, z, N, ext, rx, L) I E) (fun o h' => o = .inl (some (.int r0.1)) ∧ h' = q_hp (t, r, m, z, N, ext, rx, L) (q_ws I [(492, r0.2)]) (q_ws E [])) := by
  rw [f_X15_of__4] at hf
  refine q_Ct_of ok_X15_of (Nat.le_of_ble_eq_true rfl) ?_ _ rfl rfl
  change q_J g m_X15_of d 0 0 _ [] _ 0 0 (q_kc (t, r, m, z, N, ext, rx, L) I E 0 [some (.ref 492), some (.int x1), some (.ref 518), none] [] [] [])
  refine q_blk 2 [] (c' := q_kc (t, r, m, z, N, ext, rx, L) I E 2 [some (.ref 492), some (.int x1), some (.ref 518), none] [.int x1, .ref 492] [] []) ok_X15_of rfl q_cn ?_
  obtain ⟨r1, hr1, hf⟩ := q_bd hf
  refine q_kV (M2 := m_X15_bale) (As := [.int x1]) (b := 492) (v2 := some (.int r1.1)) ok_X15_of ok_X15_bale cv_X15_bale (ct_X15_bale_492 (d := 3) (Nat.le_refl _) hr1) rfl rfl (Or.inl rfl) rfl rfl rfl rfl (Nat.le_trans (Nat.le_of_ble_eq_true rfl) hd) (Nat.le_of_ble_eq_true rfl) (Nat.le_of_ble_eq_true rfl) (Nat.le_of_ble_eq_true rfl) (fun x hx => absurd hx List.not_mem_nil) (q_nmL0 _) (q_nmS0 _) rfl (pos' := 3) (st' := [.int r1.1]) (lI' := [(492, r1.2)]) (lE' := []) rfl rfl rfl rfl ?_
  refine q_blf 3 [] (a := q_kc (t, r, m, z, N, ext, rx, L) I E 9 [some (.ref 492), some (.int x1), some (.ref 518), some (.int r1.1)] [] [(492, r1.2)] []) (b := q_kc (t, r, m, z, N, ext, rx, L) I E 7 [some (.ref 492), some (.int x1), some (.ref 518), some (.int r1.1)] [] [(492, r1.2)] []) (P := ¬ r1.1 = (-1 : Int32)) ok_X15_of rfl q_cn (fun h2 => ?_) (fun h2 => ?_)
  · have hf := q_ip h2 hf
    obtain ⟨j3, hj3, hf⟩ := q_bd hf
    refine q_blk 3 [j3] (c' := q_kc (t, r, m, z, N, ext, rx, L) I E 12 [some (.ref 492), some (.int x1), some (.ref 518), some (.int r1.1)] [.int ((I 518) j3)] [(492, r1.2)] []) ok_X15_of rfl (q_cc hj3 q_cn) ?_
    cases hf
    exact q_kri ok_X15_of rfl rfl rfl (Nat.le_of_ble_eq_true rfl) (Nat.le_of_ble_eq_true rfl) ⟨rfl, q_hpe (q_fin [492] rfl) (q_fin [] rfl)⟩
  · have hf := q_in h2 hf
    refine q_blk 2 [] (c' := q_kc (t, r, m, z, N, ext, rx, L) I E 12 [some (.ref 492), some (.int x1), some (.ref 518), some (.int r1.1)] [.int (0 : Int32)] [(492, r1.2)] []) ok_X15_of rfl q_cn ?_
    cases hf
    exact q_kri ok_X15_of rfl rfl rfl (Nat.le_of_ble_eq_true rfl) (Nat.le_of_ble_eq_true rfl) ⟨rfl, q_hpe (q_fin [492] rfl) (q_fin [] rfl)⟩
set_option maxHeartbeats 4000000 in
theorem ct_X15_ageOf_492 {g : q_G} {t : Nat} {r : Nat} {m : Nat} {z : Nat} {N : Nat} {ext : Nat → q_Sh} {rx : Nat → Nat → Option Nat} {L : Nat → Nat → Int64} {d : Nat} (hd : 5 ≤ d)  {I : Nat → Nat → Int32} {E : Nat → Nat → Option Nat} {x1 : Int32} {r0 : Int32 × (Nat → Int32)} (hf : f_X15_ageOf (I 492) (I 499) (I 513) (I 518) x1 = some r0) : q_Ct g m_X15_ageOf d 0 0 [] [.ref 492, .int x1] (q_hp (t, r, m, z, N, ext, rx, L) I E) (fun o h' => o = .inl (some (.int r0.1)) ∧ h' = q_hp (t, r, m, z, N, ext, rx, L) (q_ws I [(492, r0.2)]) (q_ws E [])) := by
  rw [f_X15_ageOf] at hf
  refine q_Ct_of ok_X15_ageOf (Nat.le_of_ble_eq_true rfl) ?_ _ rfl rfl
  change q_J g m_X15_ageOf d 0 0 _ [] _ 0 0 (q_kc (t, r, m, z, N, ext, rx, L) I E 0 [some (.ref 492), some (.int x1)] [] [] [])
  refine q_blk 5 [] (c' := q_kc (t, r, m, z, N, ext, rx, L) I E 5 [some (.ref 492), some (.int x1)] [.ref 518, .int x1, .ref 492] [] []) ok_X15_ageOf rfl q_cn ?_
  obtain ⟨r1, hr1, hf⟩ := q_bd hf
  refine q_kV (M2 := m_X15_of) (As := [.int x1, .ref 518]) (b := 492) (v2 := some (.int r1.1)) ok_X15_ageOf ok_X15_of cv_X15_of (ct_X15_of_492_518 (d := 4) (Nat.le_refl _) hr1) rfl rfl (Or.inl rfl) rfl rfl rfl rfl (Nat.le_trans (Nat.le_of_ble_eq_true rfl) hd) (Nat.le_of_ble_eq_true rfl) (Nat.le_of_ble_eq_true rfl) (Nat.le_of_ble_eq_true rfl) (fun x hx => absurd hx List.not_mem_nil) (q_nmL0 _) (q_nmS0 _) rfl (pos' := 6) (st' := [.int r1.1]) (lI' := [(492, r1.2)]) (lE' := []) rfl rfl rfl rfl ?_
  cases hf
  exact q_kri ok_X15_ageOf rfl rfl rfl (Nat.le_of_ble_eq_true rfl) (Nat.le_of_ble_eq_true rfl) ⟨rfl, q_hpe (q_fin [492] rfl) (q_fin [] rfl)⟩
set_option maxHeartbeats 4000000 in
theorem ct_X15_of_492_514 {g : q_G} {t : Nat} {r : Nat} {m : Nat} {z : Nat} {N : Nat} {ext : Nat → q_Sh} {rx : Nat → Nat → Option Nat} {L : Nat → Nat → Int64} {d : Nat} (hd : 4 ≤ d)  {I : Nat → Nat → Int32} {E : Nat → Nat → Option Nat} {x1 : Int32} {r0 : Int32 × (Nat → Int32)} (hf : f_X15_of__5 (I 492) (I 499) (I 513) (I 514) x1 = some r0) : q_Ct g m_X15_of d 0 0 [] [.ref 492, .int x1, .ref 514] (q_hp (t, r, m, z, N, ext, rx, L) I E) (fun o h' => o = .inl (some (.int r0.1)) ∧ h' = q_hp (t, r, m, z, N, ext, rx, L) (q_ws I [(492, r0.2)]) (q_ws E [])) := by
  rw [f_X15_of__5] at hf
  refine q_Ct_of ok_X15_of (Nat.le_of_ble_eq_true rfl) ?_ _ rfl rfl
  change q_J g m_X15_of d 0 0 _ [] _ 0 0 (q_kc (t, r, m, z, N, ext, rx, L) I E 0 [some (.ref 492), some (.int x1), some (.ref 514), none] [] [] [])
  refine q_blk 2 [] (c' := q_kc (t, r, m, z, N, ext, rx, L) I E 2 [some (.ref 492), some (.int x1), some (.ref 514), none] [.int x1, .ref 492] [] []) ok_X15_of rfl q_cn ?_
  obtain ⟨r1, hr1, hf⟩ := q_bd hf
  refine q_kV (M2 := m_X15_bale) (As := [.int x1]) (b := 492) (v2 := some (.int r1.1)) ok_X15_of ok_X15_bale cv_X15_bale (ct_X15_bale_492 (d := 3) (Nat.le_refl _) hr1) rfl rfl (Or.inl rfl) rfl rfl rfl rfl (Nat.le_trans (Nat.le_of_ble_eq_true rfl) hd) (Nat.le_of_ble_eq_true rfl) (Nat.le_of_ble_eq_true rfl) (Nat.le_of_ble_eq_true rfl) (fun x hx => absurd hx List.not_mem_nil) (q_nmL0 _) (q_nmS0 _) rfl (pos' := 3) (st' := [.int r1.1]) (lI' := [(492, r1.2)]) (lE' := []) rfl rfl rfl rfl ?_
  refine q_blf 3 [] (a := q_kc (t, r, m, z, N, ext, rx, L) I E 9 [some (.ref 492), some (.int x1), some (.ref 514), some (.int r1.1)] [] [(492, r1.2)] []) (b := q_kc (t, r, m, z, N, ext, rx, L) I E 7 [some (.ref 492), some (.int x1), some (.ref 514), some (.int r1.1)] [] [(492, r1.2)] []) (P := ¬ r1.1 = (-1 : Int32)) ok_X15_of rfl q_cn (fun h2 => ?_) (fun h2 => ?_)
  · have hf := q_ip h2 hf
    obtain ⟨j3, hj3, hf⟩ := q_bd hf
    refine q_blk 3 [j3] (c' := q_kc (t, r, m, z, N, ext, rx, L) I E 12 [some (.ref 492), some (.int x1), some (.ref 514), some (.int r1.1)] [.int ((I 514) j3)] [(492, r1.2)] []) ok_X15_of rfl (q_cc hj3 q_cn) ?_
    cases hf
    exact q_kri ok_X15_of rfl rfl rfl (Nat.le_of_ble_eq_true rfl) (Nat.le_of_ble_eq_true rfl) ⟨rfl, q_hpe (q_fin [492] rfl) (q_fin [] rfl)⟩
  · have hf := q_in h2 hf
    refine q_blk 2 [] (c' := q_kc (t, r, m, z, N, ext, rx, L) I E 12 [some (.ref 492), some (.int x1), some (.ref 514), some (.int r1.1)] [.int (0 : Int32)] [(492, r1.2)] []) ok_X15_of rfl q_cn ?_
    cases hf
    exact q_kri ok_X15_of rfl rfl rfl (Nat.le_of_ble_eq_true rfl) (Nat.le_of_ble_eq_true rfl) ⟨rfl, q_hpe (q_fin [492] rfl) (q_fin [] rfl)⟩
set_option maxHeartbeats 4000000 in
theorem ct_X15_isInLoft_492 {g : q_G} {t : Nat} {r : Nat} {m : Nat} {z : Nat} {N : Nat} {ext : Nat → q_Sh} {rx : Nat → Nat → Option Nat} {L : Nat → Nat → Int64} {d : Nat} (hd : 5 ≤ d)  {I : Nat → Nat → Int32} {E : Nat → Nat → Option Nat} {x1 : Int32} {r0 : Bool × (Nat → Int32)} (hf : f_X15_isInLoft (I 492) (I 499) (I 513) (I 514) x1 = some r0) : q_Ct g m_X15_isInLoft d 0 0 [] [.ref 492, .int x1] (q_hp (t, r, m, z, N, ext, rx, L) I E) (fun o h' => o = .inl (some (.int (q_bz r0.1))) ∧ h' = q_hp (t, r, m, z, N, ext, rx, L) (q_ws I [(492, r0.2)]) (q_ws E [])) := by
  rw [f_X15_isInLoft] at hf
  refine q_Ct_of ok_X15_isInLoft (Nat.le_of_ble_eq_true rfl) ?_ _ rfl rfl
  change q_J g m_X15_isInLoft d 0 0 _ [] _ 0 0 (q_kc (t, r, m, z, N, ext, rx, L) I E 0 [some (.ref 492), some (.int x1)] [] [] [])
  refine q_blk 5 [] (c' := q_kc (t, r, m, z, N, ext, rx, L) I E 5 [some (.ref 492), some (.int x1)] [.ref 514, .int x1, .ref 492] [] []) ok_X15_isInLoft rfl q_cn ?_
  obtain ⟨r1, hr1, hf⟩ := q_bd hf
  refine q_kV (M2 := m_X15_of) (As := [.int x1, .ref 514]) (b := 492) (v2 := some (.int r1.1)) ok_X15_isInLoft ok_X15_of cv_X15_of (ct_X15_of_492_514 (d := 4) (Nat.le_refl _) hr1) rfl rfl (Or.inl rfl) rfl rfl rfl rfl (Nat.le_trans (Nat.le_of_ble_eq_true rfl) hd) (Nat.le_of_ble_eq_true rfl) (Nat.le_of_ble_eq_true rfl) (Nat.le_of_ble_eq_true rfl) (fun x hx => absurd hx List.not_mem_nil) (q_nmL0 _) (q_nmS0 _) rfl (pos' := 6) (st' := [.int r1.1]) (lI' := [(492, r1.2)]) (lE' := []) rfl rfl rfl rfl ?_
  refine q_blf 1 [] (a := q_kc (t, r, m, z, N, ext, rx, L) I E 10 [some (.ref 492), some (.int x1)] [] [(492, r1.2)] []) (b := q_kc (t, r, m, z, N, ext, rx, L) I E 8 [some (.ref 492), some (.int x1)] [] [(492, r1.2)] []) (P := ¬ r1.1 = (2 : Int32)) ok_X15_isInLoft rfl q_cn (fun h2 => ?_) (fun h2 => ?_)
  · have hf := q_ip h2 hf
    refine q_blk 1 [] (c' := q_kc (t, r, m, z, N, ext, rx, L) I E 11 [some (.ref 492), some (.int x1)] [.int (0 : Int32)] [(492, r1.2)] []) ok_X15_isInLoft rfl q_cn ?_
    cases hf
    exact q_kri ok_X15_isInLoft rfl rfl rfl (Nat.le_of_ble_eq_true rfl) (Nat.le_of_ble_eq_true rfl) ⟨rfl, q_hpe (q_fin [492] rfl) (q_fin [] rfl)⟩
  · have hf := q_in h2 hf
    refine q_blk 2 [] (c' := q_kc (t, r, m, z, N, ext, rx, L) I E 11 [some (.ref 492), some (.int x1)] [.int (1 : Int32)] [(492, r1.2)] []) ok_X15_isInLoft rfl q_cn ?_
    cases hf
    exact q_kri ok_X15_isInLoft rfl rfl rfl (Nat.le_of_ble_eq_true rfl) (Nat.le_of_ble_eq_true rfl) ⟨rfl, q_hpe (q_fin [492] rfl) (q_fin [] rfl)⟩
set_option maxHeartbeats 4000000 in
theorem ct_X14_hasRope_512 {g : q_G} {t : Nat} {r : Nat} {m : Nat} {z : Nat} {N : Nat} {ext : Nat → q_Sh} {rx : Nat → Nat → Option Nat} {L : Nat → Nat → Int64} {d : Nat} (hd : 2 ≤ d)  {I : Nat → Nat → Int32} {E : Nat → Nat → Option Nat} {x1 : Int32} {x2 : Int32} {r0 : Bool} (hf : f_X14_hasRope (I 513) (I 517) x1 x2 = some r0) : q_Ct g m_X14_hasRope d 0 0 [] [.ref 512, .int x1, .int x2] (q_hp (t, r, m, z, N, ext, rx, L) I E) (fun o h' => o = .inl (some (.int (q_bz r0))) ∧ h' = q_hp (t, r, m, z, N, ext, rx, L) (q_ws I []) (q_ws E [])) := by
  rw [f_X14_hasRope] at hf
  refine q_Ct_of ok_X14_hasRope (Nat.le_of_ble_eq_true rfl) ?_ _ rfl rfl
  change q_J g m_X14_hasRope d 0 0 _ [] _ 0 0 (q_kc (t, r, m, z, N, ext, rx, L) I E 0 [some (.ref 512), some (.int x1), some (.int x2)] [] [] [])
  obtain ⟨j1, hj1, hf⟩ := q_bd hf
  refine q_blf 5 [j1] (a := q_kc (t, r, m, z, N, ext, rx, L) I E 21 [some (.ref 512), some (.int x1), some (.int x2)] [] [] []) (b := q_kc (t, r, m, z, N, ext, rx, L) I E 6 [some (.ref 512), some (.int x1), some (.int x2)] [] [] []) (P := ((I 513) j1) = (-1 : Int32)) ok_X14_hasRope rfl (q_cc hj1 q_cn) (fun h2 => ?_) (fun h2 => ?_)
  · have hf := q_ip h2 hf
    refine q_blk 1 [] (c' := q_kc (t, r, m, z, N, ext, rx, L) I E 22 [some (.ref 512), some (.int x1), some (.int x2)] [.int (0 : Int32)] [] []) ok_X14_hasRope rfl q_cn ?_
    cases hf
    exact q_kri ok_X14_hasRope rfl rfl rfl (Nat.le_of_ble_eq_true rfl) (Nat.le_of_ble_eq_true rfl) ⟨rfl, q_hpe (q_fin [] rfl) (q_fin [] rfl)⟩
  · have hf := q_in h2 hf
    obtain ⟨j3, hj3, hf⟩ := q_bd hf
    obtain ⟨j4, hj4, hf⟩ := q_bd hf
    refine q_blk 11 [j3, j4] (c' := q_kc (t, r, m, z, N, ext, rx, L) I E 17 [some (.ref 512), some (.int x1), some (.int x2)] [.int (((I 517) j4) - (1 : Int32)), .int (0 : Int32), .int x2] [] []) ok_X14_hasRope rfl (q_cc hj4 (q_cc hj3 q_cn)) ?_
    obtain ⟨r5, hr5, hf⟩ := q_bd hf
    refine q_kS (M2 := m_X15_isIn) (As := [.int x2, .int (0 : Int32), .int (((I 517) j4) - (1 : Int32))]) (v2 := some (.int (q_bz r5))) ok_X14_hasRope ok_X15_isIn cs_X15_isIn (ct_X15_isIn (d := 1) (Nat.le_refl _) hr5) rfl rfl (Or.inr ⟨_, rfl⟩) (Nat.le_trans (Nat.le_of_ble_eq_true rfl) hd) (Nat.le_of_ble_eq_true rfl) (Nat.le_of_ble_eq_true rfl) (Nat.le_of_ble_eq_true rfl) (fun x hx => absurd hx List.not_mem_nil) (q_nmL0 _) (q_nmS0 _) rfl (pos' := 18) (st' := [.int (q_bz r5)]) (lI' := []) (lE' := []) rfl rfl rfl rfl ?_
    refine q_blf 0 [] (a := q_kc (t, r, m, z, N, ext, rx, L) I E 21 [some (.ref 512), some (.int x1), some (.int x2)] [] [] []) (b := q_kc (t, r, m, z, N, ext, rx, L) I E 19 [some (.ref 512), some (.int x1), some (.int x2)] [] [] []) (P := (q_bz r5) = 0) ok_X14_hasRope rfl q_cn (fun h6 => ?_) (fun h6 => ?_)
    · have hf := q_ip h6 hf
      refine q_blk 1 [] (c' := q_kc (t, r, m, z, N, ext, rx, L) I E 22 [some (.ref 512), some (.int x1), some (.int x2)] [.int (0 : Int32)] [] []) ok_X14_hasRope rfl q_cn ?_
      cases hf
      exact q_kri ok_X14_hasRope rfl rfl rfl (Nat.le_of_ble_eq_true rfl) (Nat.le_of_ble_eq_true rfl) ⟨rfl, q_hpe (q_fin [] rfl) (q_fin [] rfl)⟩
    · have hf := q_in h6 hf
      refine q_blk 2 [] (c' := q_kc (t, r, m, z, N, ext, rx, L) I E 22 [some (.ref 512), some (.int x1), some (.int x2)] [.int (1 : Int32)] [] []) ok_X14_hasRope rfl q_cn ?_
      cases hf
      exact q_kri ok_X14_hasRope rfl rfl rfl (Nat.le_of_ble_eq_true rfl) (Nat.le_of_ble_eq_true rfl) ⟨rfl, q_hpe (q_fin [] rfl) (q_fin [] rfl)⟩
set_option maxHeartbeats 4000000 in
theorem ct_X14_leadsTo_512 {g : q_G} {t : Nat} {r : Nat} {m : Nat} {z : Nat} {N : Nat} {ext : Nat → q_Sh} {rx : Nat → Nat → Option Nat} {L : Nat → Nat → Int64} {d : Nat} (hd : 1 ≤ d)  {I : Nat → Nat → Int32} {E : Nat → Nat → Option Nat} {x1 : Int32} {x2 : Int32} {r0 : Int32} (hf : f_X14_leadsTo (I 513) (I 519) x1 x2 = some r0) : q_Ct g m_X14_leadsTo d 0 0 [] [.ref 512, .int x1, .int x2] (q_hp (t, r, m, z, N, ext, rx, L) I E) (fun o h' => o = .inl (some (.int r0)) ∧ h' = q_hp (t, r, m, z, N, ext, rx, L) (q_ws I []) (q_ws E [])) := by
  rw [f_X14_leadsTo] at hf
  refine q_Ct_of ok_X14_leadsTo (Nat.le_of_ble_eq_true rfl) ?_ _ rfl rfl
  change q_J g m_X14_leadsTo d 0 0 _ [] _ 0 0 (q_kc (t, r, m, z, N, ext, rx, L) I E 0 [some (.ref 512), some (.int x1), some (.int x2)] [] [] [])
  obtain ⟨j1, hj1, hf⟩ := q_bd hf
  obtain ⟨j2, hj2, hf⟩ := q_bd hf
  refine q_blk 11 [j1, j2] (c' := q_kc (t, r, m, z, N, ext, rx, L) I E 11 [some (.ref 512), some (.int x1), some (.int x2)] [.int ((I 519) j2)] [] []) ok_X14_leadsTo rfl (q_cc hj2 (q_cc hj1 q_cn)) ?_
  cases hf
  exact q_kri ok_X14_leadsTo rfl rfl rfl (Nat.le_of_ble_eq_true rfl) (Nat.le_of_ble_eq_true rfl) ⟨rfl, q_hpe (q_fin [] rfl) (q_fin [] rfl)⟩
set_option maxHeartbeats 4000000 in
theorem ct_X15_ropeLeads_492 {g : q_G} {t : Nat} {r : Nat} {m : Nat} {z : Nat} {N : Nat} {ext : Nat → q_Sh} {rx : Nat → Nat → Option Nat} {L : Nat → Nat → Int64} {d : Nat} (hd : 4 ≤ d)  {I : Nat → Nat → Int32} {E : Nat → Nat → Option Nat} {x1 : Int32} {x2 : Int32} {r0 : Bool × (Nat → Int32)} (hf : f_X15_ropeLeads (I 492) (I 499) (I 513) (I 517) (I 519) x1 x2 = some r0) : q_Ct g m_X15_ropeLeads d 0 0 [] [.ref 492, .int x1, .int x2] (q_hp (t, r, m, z, N, ext, rx, L) I E) (fun o h' => o = .inl (some (.int (q_bz r0.1))) ∧ h' = q_hp (t, r, m, z, N, ext, rx, L) (q_ws I [(492, r0.2)]) (q_ws E [])) := by
  rw [f_X15_ropeLeads] at hf
  refine q_Ct_of ok_X15_ropeLeads (Nat.le_of_ble_eq_true rfl) ?_ _ rfl rfl
  change q_J g m_X15_ropeLeads d 0 0 _ [] _ 0 0 (q_kc (t, r, m, z, N, ext, rx, L) I E 0 [some (.ref 492), some (.int x1), some (.int x2)] [] [] [])
  refine q_blk 2 [] (c' := q_kc (t, r, m, z, N, ext, rx, L) I E 2 [some (.ref 492), some (.int x1), some (.int x2)] [.int x1, .ref 492] [] []) ok_X15_ropeLeads rfl q_cn ?_
  obtain ⟨r1, hr1, hf⟩ := q_bd hf
  refine q_kV (M2 := m_X15_bale) (As := [.int x1]) (b := 492) (v2 := some (.int r1.1)) ok_X15_ropeLeads ok_X15_bale cv_X15_bale (ct_X15_bale_492 (d := 3) (Nat.le_refl _) hr1) rfl rfl (Or.inl rfl) rfl rfl rfl rfl (Nat.le_trans (Nat.le_of_ble_eq_true rfl) hd) (Nat.le_of_ble_eq_true rfl) (Nat.le_of_ble_eq_true rfl) (Nat.le_of_ble_eq_true rfl) (fun x hx => absurd hx List.not_mem_nil) (q_nmL0 _) (q_nmS0 _) rfl (pos' := 3) (st' := [.int r1.1]) (lI' := [(492, r1.2)]) (lE' := []) rfl rfl rfl rfl ?_
  refine q_blf 1 [] (a := q_kc (t, r, m, z, N, ext, rx, L) I E 7 [some (.ref 492), some (.int x1), some (.int x2)] [] [(492, r1.2)] []) (b := q_kc (t, r, m, z, N, ext, rx, L) I E 5 [some (.ref 492), some (.int x1), some (.int x2)] [] [(492, r1.2)] []) (P := ¬ r1.1 = (-1 : Int32)) ok_X15_ropeLeads rfl q_cn (fun h2 => ?_) (fun h2 => ?_)
  · have hf := q_ip h2 hf
    refine q_blk 4 [] (c' := q_kc (t, r, m, z, N, ext, rx, L) I E 11 [some (.ref 492), some (.int x1), some (.int x2)] [.int x2, .int x1, .ref 512] [(492, r1.2)] []) ok_X15_ropeLeads rfl q_cn ?_
    obtain ⟨r3, hr3, hf⟩ := q_bd hf
    refine q_kV (M2 := m_X14_hasRope) (As := [.int x1, .int x2]) (b := 512) (v2 := some (.int (q_bz r3))) ok_X15_ropeLeads ok_X14_hasRope cv_X14_hasRope (ct_X14_hasRope_512 (d := 2) (Nat.le_refl _) hr3) rfl rfl (Or.inl rfl) rfl rfl rfl rfl (Nat.le_trans (Nat.le_of_ble_eq_true rfl) hd) (Nat.le_of_ble_eq_true rfl) (Nat.le_of_ble_eq_true rfl) (Nat.le_of_ble_eq_true rfl) (fun x hx => absurd hx List.not_mem_nil) (q_nmL0 _) (q_nmS0 _) rfl (pos' := 12) (st' := [.int (q_bz r3)]) (lI' := [(492, r1.2)]) (lE' := []) rfl rfl rfl rfl ?_
    refine q_blf 0 [] (a := q_kc (t, r, m, z, N, ext, rx, L) I E 24 [some (.ref 492), some (.int x1), some (.int x2)] [] [(492, r1.2)] []) (b := q_kc (t, r, m, z, N, ext, rx, L) I E 13 [some (.ref 492), some (.int x1), some (.int x2)] [] [(492, r1.2)] []) (P := (q_bz r3) = 0) ok_X15_ropeLeads rfl q_cn (fun h4 => ?_) (fun h4 => ?_)
    · have hf := q_ip h4 hf
      refine q_blk 2 [] (c' := q_kc (t, r, m, z, N, ext, rx, L) I E 26 [some (.ref 492), some (.int x1), some (.int x2)] [.int (2 : Int32), .ref 492] [(492, r1.2)] []) ok_X15_ropeLeads rfl q_cn ?_
      obtain ⟨r5, hr5, hf⟩ := q_bd hf
      refine q_kV (M2 := m_X15_isNot) (As := [.int (2 : Int32)]) (b := 492) (v2 := some (.int (q_bz r5.1))) ok_X15_ropeLeads ok_X15_isNot cv_X15_isNot (ct_X15_isNot_492 (d := 1) (Nat.le_refl _) hr5) rfl rfl (Or.inl rfl) rfl rfl rfl rfl (Nat.le_trans (Nat.le_of_ble_eq_true rfl) hd) (Nat.le_of_ble_eq_true rfl) (Nat.le_of_ble_eq_true rfl) (Nat.le_of_ble_eq_true rfl) (fun x hx => absurd hx List.not_mem_nil) (q_nmL0 _) (q_nmS0 _) rfl (pos' := 27) (st' := [.int (q_bz r5.1)]) (lI' := [(492, r5.2)]) (lE' := []) rfl rfl rfl rfl ?_
      cases hf
      exact q_kri ok_X15_ropeLeads rfl rfl (q_bz_nr _) (Nat.le_of_ble_eq_true rfl) (Nat.le_of_ble_eq_true rfl) ⟨rfl, q_hpe (q_fin [492] rfl) (q_fin [] rfl)⟩
    · have hf := q_in h4 hf
      refine q_blk 4 [] (c' := q_kc (t, r, m, z, N, ext, rx, L) I E 17 [some (.ref 492), some (.int x1), some (.int x2)] [.int x2, .int x1, .ref 512] [(492, r1.2)] []) ok_X15_ropeLeads rfl q_cn ?_
      obtain ⟨r6, hr6, hf⟩ := q_bd hf
      refine q_kV (M2 := m_X14_leadsTo) (As := [.int x1, .int x2]) (b := 512) (v2 := some (.int r6)) ok_X15_ropeLeads ok_X14_leadsTo cv_X14_leadsTo (ct_X14_leadsTo_512 (d := 1) (Nat.le_refl _) hr6) rfl rfl (Or.inl rfl) rfl rfl rfl rfl (Nat.le_trans (Nat.le_of_ble_eq_true rfl) hd) (Nat.le_of_ble_eq_true rfl) (Nat.le_of_ble_eq_true rfl) (Nat.le_of_ble_eq_true rfl) (fun x hx => absurd hx List.not_mem_nil) (q_nmL0 _) (q_nmS0 _) rfl (pos' := 18) (st' := [.int r6]) (lI' := [(492, r1.2)]) (lE' := []) rfl rfl rfl rfl ?_
      refine q_blf 1 [] (a := q_kc (t, r, m, z, N, ext, rx, L) I E 22 [some (.ref 492), some (.int x1), some (.int x2)] [] [(492, r1.2)] []) (b := q_kc (t, r, m, z, N, ext, rx, L) I E 20 [some (.ref 492), some (.int x1), some (.int x2)] [] [(492, r1.2)] []) (P := r6 = (-1 : Int32)) ok_X15_ropeLeads rfl q_cn (fun h7 => ?_) (fun h7 => ?_)
      · have hf := q_ip h7 hf
        refine q_blk 2 [] (c' := q_kc (t, r, m, z, N, ext, rx, L) I E 27 [some (.ref 492), some (.int x1), some (.int x2)] [.int (0 : Int32)] [(492, r1.2)] []) ok_X15_ropeLeads rfl q_cn ?_
        cases hf
        exact q_kri ok_X15_ropeLeads rfl rfl rfl (Nat.le_of_ble_eq_true rfl) (Nat.le_of_ble_eq_true rfl) ⟨rfl, q_hpe (q_fin [492] rfl) (q_fin [] rfl)⟩
      · have hf := q_in h7 hf
        refine q_blk 2 [] (c' := q_kc (t, r, m, z, N, ext, rx, L) I E 27 [some (.ref 492), some (.int x1), some (.int x2)] [.int (1 : Int32)] [(492, r1.2)] []) ok_X15_ropeLeads rfl q_cn ?_
        cases hf
        exact q_kri ok_X15_ropeLeads rfl rfl rfl (Nat.le_of_ble_eq_true rfl) (Nat.le_of_ble_eq_true rfl) ⟨rfl, q_hpe (q_fin [492] rfl) (q_fin [] rfl)⟩
  · have hf := q_in h2 hf
    refine q_blk 1 [] (c' := q_kc (t, r, m, z, N, ext, rx, L) I E 6 [some (.ref 492), some (.int x1), some (.int x2)] [.int (0 : Int32)] [(492, r1.2)] []) ok_X15_ropeLeads rfl q_cn ?_
    cases hf
    exact q_kri ok_X15_ropeLeads rfl rfl rfl (Nat.le_of_ble_eq_true rfl) (Nat.le_of_ble_eq_true rfl) ⟨rfl, q_hpe (q_fin [492] rfl) (q_fin [] rfl)⟩
set_option maxHeartbeats 4000000 in
theorem ct_X15_holdSame_492 {g : q_G} {t : Nat} {r : Nat} {m : Nat} {z : Nat} {N : Nat} {ext : Nat → q_Sh} {rx : Nat → Nat → Option Nat} {L : Nat → Nat → Int64} {d : Nat} (hd : 3 ≤ d)  {I : Nat → Nat → Int32} {E : Nat → Nat → Option Nat} {x1 : Int32} {x2 : Int32} {r0 : Bool × (Nat → Int32)} (hf : f_X15_holdSame (I 492) (I 499) (I 513) x1 x2 = some r0) : q_Ct g m_X15_holdSame d 0 0 [] [.ref 492, .int x1, .int x2] (q_hp (t, r, m, z, N, ext, rx, L) I E) (fun o h' => o = .inl (some (.int (q_bz r0.1))) ∧ h' = q_hp (t, r, m, z, N, ext, rx, L) (q_ws I [(492, r0.2)]) (q_ws E [])) := by
  rw [f_X15_holdSame] at hf
  refine q_Ct_of ok_X15_holdSame (Nat.le_of_ble_eq_true rfl) ?_ _ rfl rfl
  change q_J g m_X15_holdSame d 0 0 _ [] _ 0 0 (q_kc (t, r, m, z, N, ext, rx, L) I E 0 [some (.ref 492), some (.int x1), some (.int x2)] [] [] [])
  refine q_blk 5 [] (c' := q_kc (t, r, m, z, N, ext, rx, L) I E 5 [some (.ref 492), some (.int x1), some (.int x2)] [.int x1, .ref 492] [(492, (q_up (I 492) 0 (0 : Int32)))] []) ok_X15_holdSame rfl q_cn ?_
  obtain ⟨r1, hr1, hf⟩ := q_bd hf
  refine q_kV (M2 := m_X15_isHook) (As := [.int x1]) (b := 492) (v2 := some (.int (q_bz r1))) ok_X15_holdSame ok_X15_isHook cv_X15_isHook (ct_X15_isHook_492 (d := 2) (Nat.le_refl _) hr1) rfl rfl (Or.inl rfl) rfl rfl rfl rfl (Nat.le_trans (Nat.le_of_ble_eq_true rfl) hd) (Nat.le_of_ble_eq_true rfl) (Nat.le_of_ble_eq_true rfl) (Nat.le_of_ble_eq_true rfl) (fun x hx => absurd hx List.not_mem_nil) (q_nmL0 _) (q_nmS0 _) rfl (pos' := 6) (st' := [.int (q_bz r1)]) (lI' := [(492, (q_up (I 492) 0 (0 : Int32)))]) (lE' := []) rfl rfl rfl rfl ?_
  refine q_blf 0 [] (a := q_kc (t, r, m, z, N, ext, rx, L) I E 33 [some (.ref 492), some (.int x1), some (.int x2)] [] [(492, (q_up (I 492) 0 (0 : Int32)))] []) (b := q_kc (t, r, m, z, N, ext, rx, L) I E 7 [some (.ref 492), some (.int x1), some (.int x2)] [] [(492, (q_up (I 492) 0 (0 : Int32)))] []) (P := (q_bz r1) = 0) ok_X15_holdSame rfl q_cn (fun h2 => ?_) (fun h2 => ?_)
  · have hf := q_ip h2 hf
    refine q_blk 2 [] (c' := q_kc (t, r, m, z, N, ext, rx, L) I E 35 [some (.ref 492), some (.int x1), some (.int x2)] [.int (1 : Int32), .ref 492] [(492, (q_up (I 492) 0 (0 : Int32)))] []) ok_X15_holdSame rfl q_cn ?_
    obtain ⟨r3, hr3, hf⟩ := q_bd hf
    refine q_kV (M2 := m_X15_isNot) (As := [.int (1 : Int32)]) (b := 492) (v2 := some (.int (q_bz r3.1))) ok_X15_holdSame ok_X15_isNot cv_X15_isNot (ct_X15_isNot_492 (d := 1) (Nat.le_refl _) hr3) rfl rfl (Or.inl rfl) rfl rfl rfl rfl (Nat.le_trans (Nat.le_of_ble_eq_true rfl) hd) (Nat.le_of_ble_eq_true rfl) (Nat.le_of_ble_eq_true rfl) (Nat.le_of_ble_eq_true rfl) (fun x hx => absurd hx List.not_mem_nil) (q_nmL0 _) (q_nmS0 _) rfl (pos' := 36) (st' := [.int (q_bz r3.1)]) (lI' := [(492, r3.2)]) (lE' := []) rfl rfl rfl rfl ?_
    cases hf
    exact q_kri ok_X15_holdSame rfl rfl (q_bz_nr _) (Nat.le_of_ble_eq_true rfl) (Nat.le_of_ble_eq_true rfl) ⟨rfl, q_hpe (q_fin [492] rfl) (q_fin [] rfl)⟩
  · have hf := q_in h2 hf
    refine q_blk 2 [] (c' := q_kc (t, r, m, z, N, ext, rx, L) I E 9 [some (.ref 492), some (.int x1), some (.int x2)] [.int x2, .ref 492] [(492, (q_up (I 492) 0 (0 : Int32)))] []) ok_X15_holdSame rfl q_cn ?_
    obtain ⟨r4, hr4, hf⟩ := q_bd hf
    refine q_kV (M2 := m_X15_isHook) (As := [.int x2]) (b := 492) (v2 := some (.int (q_bz r4))) ok_X15_holdSame ok_X15_isHook cv_X15_isHook (ct_X15_isHook_492 (d := 2) (Nat.le_refl _) hr4) rfl rfl (Or.inl rfl) rfl rfl rfl rfl (Nat.le_trans (Nat.le_of_ble_eq_true rfl) hd) (Nat.le_of_ble_eq_true rfl) (Nat.le_of_ble_eq_true rfl) (Nat.le_of_ble_eq_true rfl) (fun x hx => absurd hx List.not_mem_nil) (q_nmL0 _) (q_nmS0 _) rfl (pos' := 10) (st' := [.int (q_bz r4)]) (lI' := [(492, (q_up (I 492) 0 (0 : Int32)))]) (lE' := []) rfl rfl rfl rfl ?_
    refine q_blf 0 [] (a := q_kc (t, r, m, z, N, ext, rx, L) I E 33 [some (.ref 492), some (.int x1), some (.int x2)] [] [(492, (q_up (I 492) 0 (0 : Int32)))] []) (b := q_kc (t, r, m, z, N, ext, rx, L) I E 11 [some (.ref 492), some (.int x1), some (.int x2)] [] [(492, (q_up (I 492) 0 (0 : Int32)))] []) (P := (q_bz r4) = 0) ok_X15_holdSame rfl q_cn (fun h5 => ?_) (fun h5 => ?_)
    · have hf := q_ip h5 hf
      refine q_blk 2 [] (c' := q_kc (t, r, m, z, N, ext, rx, L) I E 35 [some (.ref 492), some (.int x1), some (.int x2)] [.int (1 : Int32), .ref 492] [(492, (q_up (I 492) 0 (0 : Int32)))] []) ok_X15_holdSame rfl q_cn ?_
      obtain ⟨r6, hr6, hf⟩ := q_bd hf
      refine q_kV (M2 := m_X15_isNot) (As := [.int (1 : Int32)]) (b := 492) (v2 := some (.int (q_bz r6.1))) ok_X15_holdSame ok_X15_isNot cv_X15_isNot (ct_X15_isNot_492 (d := 1) (Nat.le_refl _) hr6) rfl rfl (Or.inl rfl) rfl rfl rfl rfl (Nat.le_trans (Nat.le_of_ble_eq_true rfl) hd) (Nat.le_of_ble_eq_true rfl) (Nat.le_of_ble_eq_true rfl) (Nat.le_of_ble_eq_true rfl) (fun x hx => absurd hx List.not_mem_nil) (q_nmL0 _) (q_nmS0 _) rfl (pos' := 36) (st' := [.int (q_bz r6.1)]) (lI' := [(492, r6.2)]) (lE' := []) rfl rfl rfl rfl ?_
      cases hf
      exact q_kri ok_X15_holdSame rfl rfl (q_bz_nr _) (Nat.le_of_ble_eq_true rfl) (Nat.le_of_ble_eq_true rfl) ⟨rfl, q_hpe (q_fin [492] rfl) (q_fin [] rfl)⟩
    · have hf := q_in h5 hf
      obtain ⟨j7, hj7, hf⟩ := q_bd hf
      refine q_blf 6 [j7] (a := q_kc (t, r, m, z, N, ext, rx, L) I E 31 [some (.ref 492), some (.int x1), some (.int x2)] [] [(492, (q_up (I 492) 0 (0 : Int32)))] []) (b := q_kc (t, r, m, z, N, ext, rx, L) I E 18 [some (.ref 492), some (.int x1), some (.int x2)] [] [(492, (q_up (I 492) 0 (0 : Int32)))] []) (P := ((I 513) j7) = (-1 : Int32)) ok_X15_holdSame rfl (q_cc hj7 q_cn) (fun h8 => ?_) (fun h8 => ?_)
      · have hf := q_ip h8 hf
        refine q_blk 2 [] (c' := q_kc (t, r, m, z, N, ext, rx, L) I E 36 [some (.ref 492), some (.int x1), some (.int x2)] [.int (0 : Int32)] [(492, (q_up (I 492) 0 (0 : Int32)))] []) ok_X15_holdSame rfl q_cn ?_
        cases hf
        exact q_kri ok_X15_holdSame rfl rfl rfl (Nat.le_of_ble_eq_true rfl) (Nat.le_of_ble_eq_true rfl) ⟨rfl, q_hpe (q_fin [492] rfl) (q_fin [] rfl)⟩
      · have hf := q_in h8 hf
        obtain ⟨j9, hj9, hf⟩ := q_bd hf
        obtain ⟨j10, hj10, hf⟩ := q_bd hf
        refine q_blf 10 [j9, j10] (a := q_kc (t, r, m, z, N, ext, rx, L) I E 31 [some (.ref 492), some (.int x1), some (.int x2)] [] [(492, (q_up (I 492) 0 (0 : Int32)))] []) (b := q_kc (t, r, m, z, N, ext, rx, L) I E 29 [some (.ref 492), some (.int x1), some (.int x2)] [] [(492, (q_up (I 492) 0 (0 : Int32)))] []) (P := ¬ ((I 513) j9) = ((I 513) j10)) ok_X15_holdSame rfl (q_cc hj10 (q_cc hj9 q_cn)) (fun h11 => ?_) (fun h11 => ?_)
        · have hf := q_ip h11 hf
          refine q_blk 2 [] (c' := q_kc (t, r, m, z, N, ext, rx, L) I E 36 [some (.ref 492), some (.int x1), some (.int x2)] [.int (0 : Int32)] [(492, (q_up (I 492) 0 (0 : Int32)))] []) ok_X15_holdSame rfl q_cn ?_
          cases hf
          exact q_kri ok_X15_holdSame rfl rfl rfl (Nat.le_of_ble_eq_true rfl) (Nat.le_of_ble_eq_true rfl) ⟨rfl, q_hpe (q_fin [492] rfl) (q_fin [] rfl)⟩
        · have hf := q_in h11 hf
          refine q_blk 2 [] (c' := q_kc (t, r, m, z, N, ext, rx, L) I E 36 [some (.ref 492), some (.int x1), some (.int x2)] [.int (1 : Int32)] [(492, (q_up (I 492) 0 (0 : Int32)))] []) ok_X15_holdSame rfl q_cn ?_
          cases hf
          exact q_kri ok_X15_holdSame rfl rfl rfl (Nat.le_of_ble_eq_true rfl) (Nat.le_of_ble_eq_true rfl) ⟨rfl, q_hpe (q_fin [492] rfl) (q_fin [] rfl)⟩
set_option maxHeartbeats 4000000 in
theorem lp_X15_between_L30_492 {g : q_G} {d mc ms : Nat} {h0 : q_H} {Q : (Option Value ⊕ String) → q_H → Prop} {k n : Nat} {t : Nat} {r : Nat} {m : Nat} {z : Nat} {ext : Nat → q_Sh} {rx : Nat → Nat → Option Nat} {L : Nat → Nat → Int64} (hd : 2 ≤ d) (hk : k ≤ mc) (hn : n ≤ ms)  {v2 : Int32} {v4 : Int32} {v5 : Int32} : ∀ (fu : Nat) {I : Nat → Nat → Int32} {E : Nat → Nat → Option Nat} {v6 : Int32} {r0 : (Nat → Int32) × (Nat → Int32) × (Nat → Int32) × (Nat → Int32)} (hf : f_X15_between_L30 (I 517) (I 519) v5 fu (I 492) (I 510) (I 511) (I 529) v6 = some r0) (hK0 : q_J g m_X15_between d mc ms h0 [] Q k n (q_kc (t, r, m, z, 530, (q_ur ext 529 (1, 0, 136)), rx, L) I E 70 [some (.ref 492), none, some (.int v2), some (.ref 529), some (.int v4), none, none, none] [] [(492, r0.1), (510, r0.2.1), (511, r0.2.2.1), (529, r0.2.2.2)] [])), q_J g m_X15_between d mc ms h0 [] Q k n (30, [some (.ref 492), none, some (.int v2), some (.ref 529), some (.int v4), some (.int v5), some (.int v6), none], [], q_hp (t, r, m, z, 530, (q_ur ext 529 (1, 0, 136)), rx, L) I E) := by
  intro fu
  induction fu with
  | zero =>
    intro I E v6 r0 hf hK0
    rw [f_X15_between_L30] at hf
    cases hf
  | succ fu ih =>
    intro I E v6 r0 hf hK0
    rw [f_X15_between_L30] at hf
    change q_J g m_X15_between d mc ms h0 [] Q k n (q_kc (t, r, m, z, 530, (q_ur ext 529 (1, 0, 136)), rx, L) I E 30 [some (.ref 492), none, some (.int v2), some (.ref 529), some (.int v4), some (.int v5), some (.int v6), none] [] [] [])
    obtain ⟨j1, hj1, hf⟩ := q_bd hf
    refine q_blf 6 [j1] (a := q_kc (t, r, m, z, 530, (q_ur ext 529 (1, 0, 136)), rx, L) I E 70 [some (.ref 492), none, some (.int v2), some (.ref 529), some (.int v4), some (.int v5), some (.int v6), none] [] [] []) (b := q_kc (t, r, m, z, 530, (q_ur ext 529 (1, 0, 136)), rx, L) I E 37 [some (.ref 492), none, some (.int v2), some (.ref 529), some (.int v4), some (.int v5), some (.int v6), none] [] [] []) (P := ((I 517) j1) ≤ v6) ok_X15_between rfl (q_cc hj1 q_cn) (fun h2 => ?_) (fun h2 => ?_)
    · have hf := q_ip h2 hf
      refine q_less (ls' := [some (.ref 492), none, some (.int v2), some (.ref 529), some (.int v4), none, none, none]) (q_sb2 (q_sb1 (q_sb2 (q_sb2 (q_sb2 (q_sb1 (q_sb1 (q_sb1 q_sb0)))))))) ?_
      cases hf
      exact q_Jpad [492, 510, 511, 529] [] rfl rfl hK0
    · have hf := q_in h2 hf
      obtain ⟨j3, hj3, hf⟩ := q_bd hf
      refine q_blf 12 [j3] (a := q_kc (t, r, m, z, 530, (q_ur ext 529 (1, 0, 136)), rx, L) I E 68 [some (.ref 492), none, some (.int v2), some (.ref 529), some (.int v4), some (.int v5), some (.int v6), some (.int ((I 519) j3))] [] [] []) (b := q_kc (t, r, m, z, 530, (q_ur ext 529 (1, 0, 136)), rx, L) I E 50 [some (.ref 492), none, some (.int v2), some (.ref 529), some (.int v4), some (.int v5), some (.int v6), some (.int ((I 519) j3))] [] [] []) (P := ((I 519) j3) = (-1 : Int32)) ok_X15_between rfl (q_cc hj3 q_cn) (fun h4 => ?_) (fun h4 => ?_)
      · have hf := q_ip h4 hf
        refine q_blk 2 [] (c' := q_kc (t, r, m, z, 530, (q_ur ext 529 (1, 0, 136)), rx, L) I E 30 [some (.ref 492), none, some (.int v2), some (.ref 529), some (.int v4), some (.int v5), some (.int (v6 + 1)), some (.int ((I 519) j3))] [] [] []) ok_X15_between rfl q_cn ?_
        refine q_less (ls' := [some (.ref 492), none, some (.int v2), some (.ref 529), some (.int v4), some (.int v5), some (.int (v6 + 1)), none]) (q_sb2 (q_sb1 (q_sb2 (q_sb2 (q_sb2 (q_sb2 (q_sb2 (q_sb1 q_sb0)))))))) ?_
        exact ih (I := q_ws I []) (E := q_ws E []) hf (q_Jmrg rfl rfl hK0)
      · have hf := q_in h4 hf
        obtain ⟨j5, hj5, hf⟩ := q_bd hf
        refine q_blf 4 [j5] (a := q_kc (t, r, m, z, 530, (q_ur ext 529 (1, 0, 136)), rx, L) I E 56 [some (.ref 492), none, some (.int v2), some (.ref 529), some (.int v4), some (.int v5), some (.int v6), some (.int ((I 519) j3))] [] [] []) (b := q_kc (t, r, m, z, 530, (q_ur ext 529 (1, 0, 136)), rx, L) I E 55 [some (.ref 492), none, some (.int v2), some (.ref 529), some (.int v4), some (.int v5), some (.int v6), some (.int ((I 519) j3))] [] [] []) (P := ((I 511) j5) = 0) ok_X15_between rfl (q_cc hj5 q_cn) (fun h6 => ?_) (fun h6 => ?_)
        · have hf := q_ip h6 hf
          obtain ⟨j7, hj7, hf⟩ := q_bd hf
          obtain ⟨j8, hj8, hf⟩ := q_bd hf
          refine q_blk 11 [j7, j8] (c' := q_kc (t, r, m, z, 530, (q_ur ext 529 (1, 0, 136)), rx, L) I E 67 [some (.ref 492), none, some (.int v2), some (.ref 529), some (.int v4), some (.int v5), some (.int v6), some (.int ((I 519) j3))] [.int ((I 519) j3), .ref 512] [(529, (q_up (I 529) j8 (((I 529) j7) + (1 : Int32))))] []) ok_X15_between rfl (q_cc hj8 (q_cc hj7 q_cn)) ?_
          obtain ⟨r9, hr9, hf⟩ := q_bd hf
          refine q_kV (M2 := m_X14_comeTo) (As := [.int ((I 519) j3)]) (b := 512) (v2 := none) ok_X15_between ok_X14_comeTo cv_X14_comeTo (ct_X14_comeTo_512 (d := 1) (Nat.le_refl _) hr9) rfl rfl (Or.inr ⟨_, rfl⟩) rfl rfl rfl rfl (Nat.le_trans (Nat.le_of_ble_eq_true rfl) hd) hk hn (Nat.le_of_ble_eq_true rfl) (fun x hx => absurd hx List.not_mem_nil) (q_nmL0 _) (q_nmS0 _) rfl (pos' := 68) (st' := []) (lI' := [(492, r9.1), (510, r9.2.1), (511, r9.2.2), (529, (q_up (I 529) j8 (((I 529) j7) + (1 : Int32))))]) (lE' := []) rfl rfl rfl rfl ?_
          refine q_blk 2 [] (c' := q_kc (t, r, m, z, 530, (q_ur ext 529 (1, 0, 136)), rx, L) I E 30 [some (.ref 492), none, some (.int v2), some (.ref 529), some (.int v4), some (.int v5), some (.int (v6 + 1)), some (.int ((I 519) j3))] [] [(492, r9.1), (510, r9.2.1), (511, r9.2.2), (529, (q_up (I 529) j8 (((I 529) j7) + (1 : Int32))))] []) ok_X15_between rfl q_cn ?_
          refine q_less (ls' := [some (.ref 492), none, some (.int v2), some (.ref 529), some (.int v4), some (.int v5), some (.int (v6 + 1)), none]) (q_sb2 (q_sb1 (q_sb2 (q_sb2 (q_sb2 (q_sb2 (q_sb2 (q_sb1 q_sb0)))))))) ?_
          exact ih (I := q_ws I [(492, r9.1), (510, r9.2.1), (511, r9.2.2), (529, (q_up (I 529) j8 (((I 529) j7) + (1 : Int32))))]) (E := q_ws E []) hf (q_Jmrg rfl rfl hK0)
        · have hf := q_in h6 hf
          refine q_blk 3 [] (c' := q_kc (t, r, m, z, 530, (q_ur ext 529 (1, 0, 136)), rx, L) I E 30 [some (.ref 492), none, some (.int v2), some (.ref 529), some (.int v4), some (.int v5), some (.int (v6 + 1)), some (.int ((I 519) j3))] [] [] []) ok_X15_between rfl q_cn ?_
          refine q_less (ls' := [some (.ref 492), none, some (.int v2), some (.ref 529), some (.int v4), some (.int v5), some (.int (v6 + 1)), none]) (q_sb2 (q_sb1 (q_sb2 (q_sb2 (q_sb2 (q_sb2 (q_sb2 (q_sb1 q_sb0)))))))) ?_
          exact ih (I := q_ws I []) (E := q_ws E []) hf (q_Jmrg rfl rfl hK0)
set_option maxHeartbeats 4000000 in
theorem lp_X15_between_L12_492 {g : q_G} {d mc ms : Nat} {h0 : q_H} {Q : (Option Value ⊕ String) → q_H → Prop} {k n : Nat} {t : Nat} {r : Nat} {m : Nat} {z : Nat} {ext : Nat → q_Sh} {rx : Nat → Nat → Option Nat} {L : Nat → Nat → Int64} (hd : 2 ≤ d) (hk : k ≤ mc) (hn : n ≤ ms)  {v2 : Int32} : ∀ (fu : Nat) {I : Nat → Nat → Int32} {E : Nat → Nat → Option Nat} {v4 : Int32} {r0 : Nat × Int32 × (Nat → Int32) × (Nat → Int32) × (Nat → Int32) × (Nat → Int32)} (hf : f_X15_between_L12 (I 517) (I 519) v2 fu (I 492) (I 510) (I 511) (I 529) v4 = some r0) (hK0 : r0.1 = 0 → q_J g m_X15_between d mc ms h0 [] Q k n (q_kc (t, r, m, z, 530, (q_ur ext 529 (1, 0, 136)), rx, L) I E 72 [none, none, none, none, none, none, none, none] [] [(492, r0.2.2.1), (510, r0.2.2.2.1), (511, r0.2.2.2.2.1), (529, r0.2.2.2.2.2)] [])) (hK1 : r0.1 = 1 → q_J g m_X15_between d mc ms h0 [] Q k n (q_kc (t, r, m, z, 530, (q_ur ext 529 (1, 0, 136)), rx, L) I E 24 [none, none, none, some (.ref 529), none, some (.int r0.2.1), none, none] [] [(492, r0.2.2.1), (510, r0.2.2.2.1), (511, r0.2.2.2.2.1), (529, r0.2.2.2.2.2)] [])), q_J g m_X15_between d mc ms h0 [] Q k n (12, [some (.ref 492), none, some (.int v2), some (.ref 529), some (.int v4), none, none, none], [], q_hp (t, r, m, z, 530, (q_ur ext 529 (1, 0, 136)), rx, L) I E) := by
  intro fu
  induction fu with
  | zero =>
    intro I E v4 r0 hf hK0 hK1
    rw [f_X15_between_L12] at hf
    cases hf
  | succ fu ih =>
    intro I E v4 r0 hf hK0 hK1
    rw [f_X15_between_L12] at hf
    change q_J g m_X15_between d mc ms h0 [] Q k n (q_kc (t, r, m, z, 530, (q_ur ext 529 (1, 0, 136)), rx, L) I E 12 [some (.ref 492), none, some (.int v2), some (.ref 529), some (.int v4), none, none, none] [] [] [])
    refine q_blf 3 [] (a := q_kc (t, r, m, z, 530, (q_ur ext 529 (1, 0, 136)), rx, L) I E 72 [some (.ref 492), none, some (.int v2), some (.ref 529), some (.int v4), none, none, none] [] [] []) (b := q_kc (t, r, m, z, 530, (q_ur ext 529 (1, 0, 136)), rx, L) I E 16 [some (.ref 492), none, some (.int v2), some (.ref 529), some (.int v4), none, none, none] [] [] []) (P := ((I 492) 16) ≤ v4) ok_X15_between rfl q_cn (fun h10 => ?_) (fun h10 => ?_)
    · have hf := q_ip h10 hf
      refine q_less (ls' := [none, none, none, none, none, none, none, none]) (q_sb1 (q_sb1 (q_sb1 (q_sb1 (q_sb1 (q_sb1 (q_sb1 (q_sb1 q_sb0)))))))) ?_
      cases hf
      exact q_Jpad [492, 510, 511, 529] [] rfl rfl (hK0 rfl)
    · have hf := q_in h10 hf
      obtain ⟨j11, hj11, hf⟩ := q_bd hf
      refine q_blf 7 [j11] (a := q_kc (t, r, m, z, 530, (q_ur ext 529 (1, 0, 136)), rx, L) I E 28 [some (.ref 492), none, some (.int v2), some (.ref 529), some (.int v4), some (.int ((I 510) j11)), none, none] [] [] []) (b := q_kc (t, r, m, z, 530, (q_ur ext 529 (1, 0, 136)), rx, L) I E 24 [some (.ref 492), none, some (.int v2), some (.ref 529), some (.int v4), some (.int ((I 510) j11)), none, none] [] [] []) (P := ¬ ((I 510) j11) = v2) ok_X15_between rfl (q_cc hj11 q_cn) (fun h12 => ?_) (fun h12 => ?_)
      · have hf := q_ip h12 hf
        refine q_blk 2 [] (c' := q_kc (t, r, m, z, 530, (q_ur ext 529 (1, 0, 136)), rx, L) I E 30 [some (.ref 492), none, some (.int v2), some (.ref 529), some (.int v4), some (.int ((I 510) j11)), some (.int (0 : Int32)), none] [] [] []) ok_X15_between rfl q_cn ?_
        obtain ⟨r13, hr13, hf⟩ := q_bd hf
        refine lp_X15_between_L30_492 (I := q_ws I []) (E := q_ws E []) hd hk hn 4096 hr13 ?_
        refine q_Jmrg (lI' := [(492, r13.1), (510, r13.2.1), (511, r13.2.2.1), (529, r13.2.2.2)]) (lE' := []) rfl rfl ?_
        refine q_blk 2 [] (c' := q_kc (t, r, m, z, 530, (q_ur ext 529 (1, 0, 136)), rx, L) I E 12 [some (.ref 492), none, some (.int v2), some (.ref 529), some (.int (v4 + 1)), none, none, none] [] [(492, r13.1), (510, r13.2.1), (511, r13.2.2.1), (529, r13.2.2.2)] []) ok_X15_between rfl q_cn ?_
        exact ih (I := q_ws I [(492, r13.1), (510, r13.2.1), (511, r13.2.2.1), (529, r13.2.2.2)]) (E := q_ws E []) hf (fun hz => q_Jmrg rfl rfl (hK0 hz)) (fun hz => q_Jmrg rfl rfl (hK1 hz))
      · have hf := q_in h12 hf
        refine q_less (ls' := [none, none, none, some (.ref 529), none, some (.int ((I 510) j11)), none, none]) (q_sb1 (q_sb1 (q_sb1 (q_sb2 (q_sb1 (q_sb2 (q_sb1 (q_sb1 q_sb0)))))))) ?_
        cases hf
        exact q_Jpad [492, 510, 511, 529] [] rfl rfl (hK1 rfl)
set_option maxHeartbeats 4000000 in
theorem ct_X15_between_492 {g : q_G} {t : Nat} {r : Nat} {m : Nat} {ext : Nat → q_Sh} {rx : Nat → Nat → Option Nat} {L : Nat → Nat → Int64} {d : Nat} (hd : 2 ≤ d)  {I : Nat → Nat → Int32} {E : Nat → Nat → Option Nat} {x1 : Int32} {x2 : Int32} {r0 : Int32 × (Nat → Int32) × (Nat → Int32) × (Nat → Int32)} (hf : f_X15_between (I 492) (I 510) (I 511) (I 517) (I 519) x1 x2 = some r0) : q_Ct g m_X15_between d 1 136 [] [.ref 492, .int x1, .int x2] (q_hp (t, r, m, 499, 529, ext, rx, L) I E) (fun o h' => o = .inl (some (.int r0.1)) ∧ h' = q_hp (t, r, m, 499, 529, ext, rx, L) (q_ws I [(492, r0.2.1), (510, r0.2.2.1), (511, r0.2.2.2)]) (q_ws E [])) := by
  rw [f_X15_between] at hf
  refine q_Ct_of ok_X15_between (Nat.le_of_ble_eq_true rfl) ?_ _ rfl rfl
  change q_J g m_X15_between d 1 136 _ [] _ 0 0 (q_kc (t, r, m, 499, 529, ext, rx, L) I E 0 [some (.ref 492), some (.int x1), some (.int x2), none, none, none, none, none] [] [] [])
  refine q_clo_J (fun hclo0 => ?_)
  refine q_blk 1 [] (c' := q_kc (t, r, m, 499, 529, ext, rx, L) I E 1 [some (.ref 492), some (.int x1), some (.int x2), none, none, none, none, none] [.int (136 : Int32)] [] []) ok_X15_between rfl q_cn ?_
  refine q_knewI (Lw := 136) (pos' := 2) (lI' := [(529, (fun _ => 0))]) (lE' := [(529, (fun _ => none))]) ok_X15_between rfl rfl rfl (Nat.le_of_ble_eq_true rfl) (Nat.le_of_ble_eq_true rfl) rfl rfl rfl ?_
  refine q_blk 3 [] (c' := q_kc (t, r, m, 499, 530, (q_ur ext 529 (1, 0, 136)), (q_ur rx 529 (fun _ => none)), (q_ur L 529 (fun _ => 0))) I E 5 [some (.ref 492), some (.int x1), some (.int x2), some (.ref 529), none, none, none, none] [.ref 512] [(529, (fun _ => 0))] [(529, (fun _ => none))]) ok_X15_between rfl q_cn ?_
  obtain ⟨r14, hr14, hf⟩ := q_bd hf
  refine q_kV (M2 := m_X14_forget) (As := []) (b := 512) (v2 := none) ok_X15_between ok_X14_forget cv_X14_forget (ct_X14_forget_512 (d := 1) (Nat.le_refl _) hr14) rfl rfl (Or.inr ⟨_, rfl⟩) rfl rfl rfl rfl (Nat.le_trans (Nat.le_of_ble_eq_true rfl) hd) (Nat.le_of_ble_eq_true rfl) (Nat.le_of_ble_eq_true rfl) (Nat.le_of_ble_eq_true rfl) (fun x hx => absurd hx List.not_mem_nil) (q_nmL0 _) (q_nmS0 _) rfl (pos' := 6) (st' := []) (lI' := [(492, r14.1), (511, r14.2), (529, (fun _ => 0))]) (lE' := [(529, (fun _ => none))]) rfl rfl rfl rfl ?_
  refine q_blk 3 [] (c' := q_kc (t, r, m, 499, 530, (q_ur ext 529 (1, 0, 136)), (q_ur rx 529 (fun _ => none)), (q_ur L 529 (fun _ => 0))) I E 9 [some (.ref 492), some (.int x1), some (.int x2), some (.ref 529), none, none, none, none] [.int x1, .ref 512] [(492, r14.1), (511, r14.2), (529, (fun _ => 0))] [(529, (fun _ => none))]) ok_X15_between rfl q_cn ?_
  obtain ⟨r15, hr15, hf⟩ := q_bd hf
  refine q_kV (M2 := m_X14_comeTo) (As := [.int x1]) (b := 512) (v2 := none) ok_X15_between ok_X14_comeTo cv_X14_comeTo (ct_X14_comeTo_512 (d := 1) (Nat.le_refl _) hr15) rfl rfl (Or.inr ⟨_, rfl⟩) rfl rfl rfl rfl (Nat.le_trans (Nat.le_of_ble_eq_true rfl) hd) (Nat.le_of_ble_eq_true rfl) (Nat.le_of_ble_eq_true rfl) (Nat.le_of_ble_eq_true rfl) (fun x hx => absurd hx List.not_mem_nil) (q_nmL0 _) (q_nmS0 _) rfl (pos' := 10) (st' := []) (lI' := [(492, r15.1), (510, r15.2.1), (511, r15.2.2), (529, (fun _ => 0))]) (lE' := [(529, (fun _ => none))]) rfl rfl rfl rfl ?_
  refine q_blk 2 [] (c' := q_kc (t, r, m, 499, 530, (q_ur ext 529 (1, 0, 136)), (q_ur rx 529 (fun _ => none)), (q_ur L 529 (fun _ => 0))) I E 12 [some (.ref 492), some (.int x1), some (.int x2), some (.ref 529), some (.int (0 : Int32)), none, none, none] [] [(492, r15.1), (510, r15.2.1), (511, r15.2.2), (529, (fun _ => 0))] [(529, (fun _ => none))]) ok_X15_between rfl q_cn ?_
  refine q_less (ls' := [some (.ref 492), none, some (.int x2), some (.ref 529), some (.int (0 : Int32)), none, none, none]) (q_sb2 (q_sb1 (q_sb2 (q_sb2 (q_sb2 (q_sb1 (q_sb1 (q_sb1 q_sb0)))))))) ?_
  obtain ⟨r16, hr16, hf⟩ := q_bd hf
  refine lp_X15_between_L12_492 (I := q_ws I [(492, r15.1), (510, r15.2.1), (511, r15.2.2), (529, (fun _ => 0))]) (E := q_ws E [(529, (fun _ => none))]) hd (Nat.le_of_ble_eq_true rfl) (Nat.le_of_ble_eq_true rfl) 4096 hr16 ?_ ?_
  · intro hz0
    have hf := q_ip hz0 hf
    refine q_Jmrg (lI' := [(492, r16.2.2.1), (510, r16.2.2.2.1), (511, r16.2.2.2.2.1), (529, r16.2.2.2.2.2)]) (lE' := [(529, (fun _ => none))]) rfl rfl ?_
    refine q_blk 1 [] (c' := q_kc (t, r, m, 499, 530, (q_ur ext 529 (1, 0, 136)), (q_ur rx 529 (fun _ => none)), (q_ur L 529 (fun _ => 0))) I E 73 [none, none, none, none, none, none, none, none] [.int (-1 : Int32)] [(492, r16.2.2.1), (510, r16.2.2.2.1), (511, r16.2.2.2.2.1), (529, r16.2.2.2.2.2)] [(529, (fun _ => none))]) ok_X15_between rfl q_cn ?_
    cases hf
    refine q_less (ls' := [none, none, none, none, none, none, none, none]) (q_sb1 (q_sb1 (q_sb1 (q_sb1 (q_sb1 (q_sb1 (q_sb1 (q_sb1 q_sb0)))))))) ?_
    refine q_kdrop (lI0 := [(492, r16.2.2.1), (510, r16.2.2.2.1), (511, r16.2.2.2.2.1)]) (lE0 := []) hclo0 rfl rfl (q_nrS_of rfl) (q_nrL_of rfl) (Nat.le_refl _) rfl ?_
    exact q_kri ok_X15_between rfl rfl rfl (Nat.le_of_ble_eq_true rfl) (Nat.le_of_ble_eq_true rfl) ⟨rfl, q_hpe (q_fin [492, 510, 511] rfl) (q_fin [] rfl)⟩
  · intro hz1
    have hf := q_in (fun h9 => absurd (hz1.symm.trans h9) (by decide)) hf
    refine q_Jmrg (lI' := [(492, r16.2.2.1), (510, r16.2.2.2.1), (511, r16.2.2.2.2.1), (529, r16.2.2.2.2.2)]) (lE' := [(529, (fun _ => none))]) rfl rfl ?_
    obtain ⟨j17, hj17, hf⟩ := q_bd hf
    refine q_blk 3 [j17] (c' := q_kc (t, r, m, 499, 530, (q_ur ext 529 (1, 0, 136)), (q_ur rx 529 (fun _ => none)), (q_ur L 529 (fun _ => 0))) I E 27 [none, none, none, some (.ref 529), none, some (.int r16.2.1), none, none] [.int (r16.2.2.2.2.2 j17)] [(492, r16.2.2.1), (510, r16.2.2.2.1), (511, r16.2.2.2.2.1), (529, r16.2.2.2.2.2)] [(529, (fun _ => none))]) ok_X15_between rfl (q_cc hj17 q_cn) ?_
    cases hf
    refine q_less (ls' := [none, none, none, none, none, none, none, none]) (q_sb1 (q_sb1 (q_sb1 (q_sb1 (q_sb1 (q_sb1 (q_sb1 (q_sb1 q_sb0)))))))) ?_
    refine q_kdrop (lI0 := [(492, r16.2.2.1), (510, r16.2.2.2.1), (511, r16.2.2.2.2.1)]) (lE0 := []) hclo0 rfl rfl (q_nrS_of rfl) (q_nrL_of rfl) (Nat.le_refl _) rfl ?_
    exact q_kri ok_X15_between rfl rfl rfl (Nat.le_of_ble_eq_true rfl) (Nat.le_of_ble_eq_true rfl) ⟨rfl, q_hpe (q_fin [492, 510, 511] rfl) (q_fin [] rfl)⟩
set_option maxHeartbeats 4000000 in
theorem ct_X15_ropesBetween_492 {g : q_G} {t : Nat} {r : Nat} {m : Nat} {ext : Nat → q_Sh} {rx : Nat → Nat → Option Nat} {L : Nat → Nat → Int64} {d : Nat} (hd : 3 ≤ d)  {I : Nat → Nat → Int32} {E : Nat → Nat → Option Nat} {x1 : Int32} {x2 : Int32} {r0 : Int32 × (Nat → Int32) × (Nat → Int32) × (Nat → Int32)} (hf : f_X15_ropesBetween (I 492) (I 499) (I 510) (I 511) (I 513) (I 517) (I 519) x1 x2 = some r0) : q_Ct g m_X15_ropesBetween d 1 136 [] [.ref 492, .int x1, .int x2] (q_hp (t, r, m, 499, 529, ext, rx, L) I E) (fun o h' => o = .inl (some (.int r0.1)) ∧ h' = q_hp (t, r, m, 499, 529, ext, rx, L) (q_ws I [(492, r0.2.1), (510, r0.2.2.1), (511, r0.2.2.2)]) (q_ws E [])) := by
  rw [f_X15_ropesBetween] at hf
  refine q_Ct_of ok_X15_ropesBetween (Nat.le_of_ble_eq_true rfl) ?_ _ rfl rfl
  change q_J g m_X15_ropesBetween d 1 136 _ [] _ 0 0 (q_kc (t, r, m, 499, 529, ext, rx, L) I E 0 [some (.ref 492), some (.int x1), some (.int x2)] [] [] [])
  refine q_blk 5 [] (c' := q_kc (t, r, m, 499, 529, ext, rx, L) I E 5 [some (.ref 492), some (.int x1), some (.int x2)] [.int x1, .ref 492] [(492, (q_up (I 492) 0 (0 : Int32)))] []) ok_X15_ropesBetween rfl q_cn ?_
  obtain ⟨r1, hr1, hf⟩ := q_bd hf
  refine q_kV (M2 := m_X15_isHook) (As := [.int x1]) (b := 492) (v2 := some (.int (q_bz r1))) ok_X15_ropesBetween ok_X15_isHook cv_X15_isHook (ct_X15_isHook_492 (d := 2) (Nat.le_refl _) hr1) rfl rfl (Or.inl rfl) rfl rfl rfl rfl (Nat.le_trans (Nat.le_of_ble_eq_true rfl) hd) (Nat.le_of_ble_eq_true rfl) (Nat.le_of_ble_eq_true rfl) (Nat.le_of_ble_eq_true rfl) (fun x hx => absurd hx List.not_mem_nil) (q_nmL0 _) (q_nmS0 _) rfl (pos' := 6) (st' := [.int (q_bz r1)]) (lI' := [(492, (q_up (I 492) 0 (0 : Int32)))]) (lE' := []) rfl rfl rfl rfl ?_
  refine q_blf 0 [] (a := q_kc (t, r, m, 499, 529, ext, rx, L) I E 11 [some (.ref 492), some (.int x1), some (.int x2)] [] [(492, (q_up (I 492) 0 (0 : Int32)))] []) (b := q_kc (t, r, m, 499, 529, ext, rx, L) I E 7 [some (.ref 492), some (.int x1), some (.int x2)] [] [(492, (q_up (I 492) 0 (0 : Int32)))] []) (P := (q_bz r1) = 0) ok_X15_ropesBetween rfl q_cn (fun h2 => ?_) (fun h2 => ?_)
  · have hf := q_ip h2 hf
    refine q_blk 2 [] (c' := q_kc (t, r, m, 499, 529, ext, rx, L) I E 13 [some (.ref 492), some (.int x1), some (.int x2)] [.int (1 : Int32), .ref 492] [(492, (q_up (I 492) 0 (0 : Int32)))] []) ok_X15_ropesBetween rfl q_cn ?_
    obtain ⟨r3, hr3, hf⟩ := q_bd hf
    refine q_kV (M2 := m_X15_no) (As := [.int (1 : Int32)]) (b := 492) (v2 := some (.int r3.1)) ok_X15_ropesBetween ok_X15_no cv_X15_no (ct_X15_no_492 (d := 1) (Nat.le_refl _) hr3) rfl rfl (Or.inl rfl) rfl rfl rfl rfl (Nat.le_trans (Nat.le_of_ble_eq_true rfl) hd) (Nat.le_of_ble_eq_true rfl) (Nat.le_of_ble_eq_true rfl) (Nat.le_of_ble_eq_true rfl) (fun x hx => absurd hx List.not_mem_nil) (q_nmL0 _) (q_nmS0 _) rfl (pos' := 14) (st' := [.int r3.1]) (lI' := [(492, r3.2)]) (lE' := []) rfl rfl rfl rfl ?_
    cases hf
    exact q_kri ok_X15_ropesBetween rfl rfl rfl (Nat.le_of_ble_eq_true rfl) (Nat.le_of_ble_eq_true rfl) ⟨rfl, q_hpe (q_fin [492, 510, 511] rfl) (q_fin [] rfl)⟩
  · have hf := q_in h2 hf
    refine q_blk 2 [] (c' := q_kc (t, r, m, 499, 529, ext, rx, L) I E 9 [some (.ref 492), some (.int x1), some (.int x2)] [.int x2, .ref 492] [(492, (q_up (I 492) 0 (0 : Int32)))] []) ok_X15_ropesBetween rfl q_cn ?_
    obtain ⟨r4, hr4, hf⟩ := q_bd hf
    refine q_kV (M2 := m_X15_isHook) (As := [.int x2]) (b := 492) (v2 := some (.int (q_bz r4))) ok_X15_ropesBetween ok_X15_isHook cv_X15_isHook (ct_X15_isHook_492 (d := 2) (Nat.le_refl _) hr4) rfl rfl (Or.inl rfl) rfl rfl rfl rfl (Nat.le_trans (Nat.le_of_ble_eq_true rfl) hd) (Nat.le_of_ble_eq_true rfl) (Nat.le_of_ble_eq_true rfl) (Nat.le_of_ble_eq_true rfl) (fun x hx => absurd hx List.not_mem_nil) (q_nmL0 _) (q_nmS0 _) rfl (pos' := 10) (st' := [.int (q_bz r4)]) (lI' := [(492, (q_up (I 492) 0 (0 : Int32)))]) (lE' := []) rfl rfl rfl rfl ?_
    refine q_blf 0 [] (a := q_kc (t, r, m, 499, 529, ext, rx, L) I E 15 [some (.ref 492), some (.int x1), some (.int x2)] [] [(492, (q_up (I 492) 0 (0 : Int32)))] []) (b := q_kc (t, r, m, 499, 529, ext, rx, L) I E 11 [some (.ref 492), some (.int x1), some (.int x2)] [] [(492, (q_up (I 492) 0 (0 : Int32)))] []) (P := ¬ (q_bz r4) = 0) ok_X15_ropesBetween rfl q_cn (fun h5 => ?_) (fun h5 => ?_)
    · have hf := q_ip h5 hf
      obtain ⟨j6, hj6, hf⟩ := q_bd hf
      refine q_blf 6 [j6] (a := q_kc (t, r, m, 499, 529, ext, rx, L) I E 29 [some (.ref 492), some (.int x1), some (.int x2)] [] [(492, (q_up (I 492) 0 (0 : Int32)))] []) (b := q_kc (t, r, m, 499, 529, ext, rx, L) I E 22 [some (.ref 492), some (.int x1), some (.int x2)] [] [(492, (q_up (I 492) 0 (0 : Int32)))] []) (P := ((I 513) j6) = (-1 : Int32)) ok_X15_ropesBetween rfl (q_cc hj6 q_cn) (fun h7 => ?_) (fun h7 => ?_)
      · have hf := q_ip h7 hf
        refine q_blk 2 [] (c' := q_kc (t, r, m, 499, 529, ext, rx, L) I E 31 [some (.ref 492), some (.int x1), some (.int x2)] [.int (2 : Int32), .ref 492] [(492, (q_up (I 492) 0 (0 : Int32)))] []) ok_X15_ropesBetween rfl q_cn ?_
        obtain ⟨r8, hr8, hf⟩ := q_bd hf
        refine q_kV (M2 := m_X15_no) (As := [.int (2 : Int32)]) (b := 492) (v2 := some (.int r8.1)) ok_X15_ropesBetween ok_X15_no cv_X15_no (ct_X15_no_492 (d := 1) (Nat.le_refl _) hr8) rfl rfl (Or.inl rfl) rfl rfl rfl rfl (Nat.le_trans (Nat.le_of_ble_eq_true rfl) hd) (Nat.le_of_ble_eq_true rfl) (Nat.le_of_ble_eq_true rfl) (Nat.le_of_ble_eq_true rfl) (fun x hx => absurd hx List.not_mem_nil) (q_nmL0 _) (q_nmS0 _) rfl (pos' := 32) (st' := [.int r8.1]) (lI' := [(492, r8.2)]) (lE' := []) rfl rfl rfl rfl ?_
        refine q_blk 1 [] (c' := q_kc (t, r, m, 499, 529, ext, rx, L) I E 45 [some (.ref 492), some (.int x1), some (.int x2)] [.int r8.1] [(492, r8.2)] []) ok_X15_ropesBetween rfl q_cn ?_
        cases hf
        exact q_kri ok_X15_ropesBetween rfl rfl rfl (Nat.le_of_ble_eq_true rfl) (Nat.le_of_ble_eq_true rfl) ⟨rfl, q_hpe (q_fin [492, 510, 511] rfl) (q_fin [] rfl)⟩
      · have hf := q_in h7 hf
        obtain ⟨j9, hj9, hf⟩ := q_bd hf
        refine q_blf 6 [j9] (a := q_kc (t, r, m, 499, 529, ext, rx, L) I E 33 [some (.ref 492), some (.int x1), some (.int x2)] [] [(492, (q_up (I 492) 0 (0 : Int32)))] []) (b := q_kc (t, r, m, 499, 529, ext, rx, L) I E 29 [some (.ref 492), some (.int x1), some (.int x2)] [] [(492, (q_up (I 492) 0 (0 : Int32)))] []) (P := ¬ ((I 513) j9) = (-1 : Int32)) ok_X15_ropesBetween rfl (q_cc hj9 q_cn) (fun h10 => ?_) (fun h10 => ?_)
        · have hf := q_ip h10 hf
          obtain ⟨j11, hj11, hf⟩ := q_bd hf
          obtain ⟨j12, hj12, hf⟩ := q_bd hf
          refine q_blk 11 [j11, j12] (c' := q_kc (t, r, m, 499, 529, ext, rx, L) I E 44 [some (.ref 492), some (.int x1), some (.int x2)] [.int ((I 513) j12), .int ((I 513) j11), .ref 492] [(492, (q_up (I 492) 0 (0 : Int32)))] []) ok_X15_ropesBetween rfl (q_cc hj12 (q_cc hj11 q_cn)) ?_
          obtain ⟨r13, hr13, hf⟩ := q_bd hf
          refine q_kV (M2 := m_X15_between) (As := [.int ((I 513) j11), .int ((I 513) j12)]) (b := 492) (v2 := some (.int r13.1)) ok_X15_ropesBetween ok_X15_between cv_X15_between (ct_X15_between_492 (d := 2) (Nat.le_refl _) hr13) rfl rfl (Or.inl rfl) rfl rfl rfl rfl (Nat.le_trans (Nat.le_of_ble_eq_true rfl) hd) (Nat.le_of_ble_eq_true rfl) (Nat.le_of_ble_eq_true rfl) (Nat.le_of_ble_eq_true rfl) (fun x hx => absurd hx List.not_mem_nil) (q_nmL0 _) (q_nmS0 _) rfl (pos' := 45) (st' := [.int r13.1]) (lI' := [(492, r13.2.1), (510, r13.2.2.1), (511, r13.2.2.2)]) (lE' := []) rfl rfl rfl rfl ?_
          cases hf
          exact q_kri ok_X15_ropesBetween rfl rfl rfl (Nat.le_of_ble_eq_true rfl) (Nat.le_of_ble_eq_true rfl) ⟨rfl, q_hpe (q_fin [492, 510, 511] rfl) (q_fin [] rfl)⟩
        · have hf := q_in h10 hf
          refine q_blk 2 [] (c' := q_kc (t, r, m, 499, 529, ext, rx, L) I E 31 [some (.ref 492), some (.int x1), some (.int x2)] [.int (2 : Int32), .ref 492] [(492, (q_up (I 492) 0 (0 : Int32)))] []) ok_X15_ropesBetween rfl q_cn ?_
          obtain ⟨r14, hr14, hf⟩ := q_bd hf
          refine q_kV (M2 := m_X15_no) (As := [.int (2 : Int32)]) (b := 492) (v2 := some (.int r14.1)) ok_X15_ropesBetween ok_X15_no cv_X15_no (ct_X15_no_492 (d := 1) (Nat.le_refl _) hr14) rfl rfl (Or.inl rfl) rfl rfl rfl rfl (Nat.le_trans (Nat.le_of_ble_eq_true rfl) hd) (Nat.le_of_ble_eq_true rfl) (Nat.le_of_ble_eq_true rfl) (Nat.le_of_ble_eq_true rfl) (fun x hx => absurd hx List.not_mem_nil) (q_nmL0 _) (q_nmS0 _) rfl (pos' := 32) (st' := [.int r14.1]) (lI' := [(492, r14.2)]) (lE' := []) rfl rfl rfl rfl ?_
          refine q_blk 1 [] (c' := q_kc (t, r, m, 499, 529, ext, rx, L) I E 45 [some (.ref 492), some (.int x1), some (.int x2)] [.int r14.1] [(492, r14.2)] []) ok_X15_ropesBetween rfl q_cn ?_
          cases hf
          exact q_kri ok_X15_ropesBetween rfl rfl rfl (Nat.le_of_ble_eq_true rfl) (Nat.le_of_ble_eq_true rfl) ⟨rfl, q_hpe (q_fin [492, 510, 511] rfl) (q_fin [] rfl)⟩
    · have hf := q_in h5 hf
      refine q_blk 2 [] (c' := q_kc (t, r, m, 499, 529, ext, rx, L) I E 13 [some (.ref 492), some (.int x1), some (.int x2)] [.int (1 : Int32), .ref 492] [(492, (q_up (I 492) 0 (0 : Int32)))] []) ok_X15_ropesBetween rfl q_cn ?_
      obtain ⟨r15, hr15, hf⟩ := q_bd hf
      refine q_kV (M2 := m_X15_no) (As := [.int (1 : Int32)]) (b := 492) (v2 := some (.int r15.1)) ok_X15_ropesBetween ok_X15_no cv_X15_no (ct_X15_no_492 (d := 1) (Nat.le_refl _) hr15) rfl rfl (Or.inl rfl) rfl rfl rfl rfl (Nat.le_trans (Nat.le_of_ble_eq_true rfl) hd) (Nat.le_of_ble_eq_true rfl) (Nat.le_of_ble_eq_true rfl) (Nat.le_of_ble_eq_true rfl) (fun x hx => absurd hx List.not_mem_nil) (q_nmL0 _) (q_nmS0 _) rfl (pos' := 14) (st' := [.int r15.1]) (lI' := [(492, r15.2)]) (lE' := []) rfl rfl rfl rfl ?_
      cases hf
      exact q_kri ok_X15_ropesBetween rfl rfl rfl (Nat.le_of_ble_eq_true rfl) (Nat.le_of_ble_eq_true rfl) ⟨rfl, q_hpe (q_fin [492, 510, 511] rfl) (q_fin [] rfl)⟩
set_option maxHeartbeats 4000000 in
theorem ct_X14_copy_512_514_529_O {g : q_G} {t : Nat} {r : Nat} {m : Nat} {z : Nat} {ext : Nat → q_Sh} {rx : Nat → Nat → Option Nat} {L : Nat → Nat → Int64} {d : Nat} (hd : 2 ≤ d)  {I : Nat → Nat → Int32} {E : Nat → Nat → Option Nat} {r0 : (Nat → Int32)} (hf : f_X14_copy (I 514) (I 529) = some r0) : q_Ct g m_X14_copy d 0 0 [] [.ref 512, .ref 514, .ref 529] (q_hp (t, r, m, z, 530, (q_ur ext 529 (1, 0, 136)), rx, L) I E) (fun o h' => o = .inl none ∧ h' = q_hp (t, r, m, z, 530, (q_ur ext 529 (1, 0, 136)), rx, L) (q_ws I [(529, r0)]) (q_ws E [])) := by
  rw [f_X14_copy] at hf
  refine q_Ct_of ok_X14_copy (Nat.le_of_ble_eq_true rfl) ?_ _ rfl rfl
  change q_J g m_X14_copy d 0 0 _ [] _ 0 0 (q_kc (t, r, m, z, 530, (q_ur ext 529 (1, 0, 136)), rx, L) I E 0 [some (.ref 512), some (.ref 514), some (.ref 529)] [] [] [])
  refine q_blk 6 [] (c' := q_kc (t, r, m, z, 530, (q_ur ext 529 (1, 0, 136)), rx, L) I E 6 [some (.ref 512), some (.ref 514), some (.ref 529)] [.int (nI 136), .int (0 : Int32), .ref 529, .int (0 : Int32), .ref 514] [] []) ok_X14_copy rfl q_cn ?_
  refine q_kcp (c := 136) (pos' := 7) (lI' := [(529, (q_cp (I 514) (I 529) 136))]) ok_X14_copy rfl rfl (Nat.le_trans (Nat.le_of_ble_eq_true rfl) hd) (Nat.le_of_ble_eq_true rfl) rfl rfl rfl rfl rfl rfl rfl rfl rfl rfl ?_
  cases hf
  exact q_krv ok_X14_copy rfl rfl (Nat.le_of_ble_eq_true rfl) (Nat.le_of_ble_eq_true rfl) ⟨rfl, q_hpe (q_fin [529] rfl) (q_fin [] rfl)⟩
set_option maxHeartbeats 4000000 in
theorem lp_X14_gapFor_L2_512 {g : q_G} {d mc ms : Nat} {h0 : q_H} {Q : (Option Value ⊕ String) → q_H → Prop} {k n : Nat} {t : Nat} {r : Nat} {m : Nat} {z : Nat} {N : Nat} {ext : Nat → q_Sh} {rx : Nat → Nat → Option Nat} {L : Nat → Nat → Int64} (hd : 3 ≤ d) (hk : k ≤ mc) (hn : n ≤ ms)  {v1 : Int32} : ∀ (fu : Nat) {I : Nat → Nat → Int32} {E : Nat → Nat → Option Nat} {v2 : Int32} {r0 : Nat × Int32} (hf : f_X14_gapFor_L2 (I 499) (I 514) (I 515) (I 516) v1 fu v2 = some r0) (hK0 : r0.1 = 0 → q_J g m_X14_gapFor d mc ms h0 [] Q k n (q_kc (t, r, m, z, N, ext, rx, L) I E 19 [none, none, none] [] [] [])) (hK1 : r0.1 = 1 → q_J g m_X14_gapFor d mc ms h0 [] Q k n (q_kc (t, r, m, z, N, ext, rx, L) I E 15 [none, none, some (.int r0.2)] [] [] [])), q_J g m_X14_gapFor d mc ms h0 [] Q k n (2, [some (.ref 512), some (.int v1), some (.int v2)], [], q_hp (t, r, m, z, N, ext, rx, L) I E) := by
  intro fu
  induction fu with
  | zero =>
    intro I E v2 r0 hf hK0 hK1
    rw [f_X14_gapFor_L2] at hf
    cases hf
  | succ fu ih =>
    intro I E v2 r0 hf hK0 hK1
    rw [f_X14_gapFor_L2] at hf
    change q_J g m_X14_gapFor d mc ms h0 [] Q k n (q_kc (t, r, m, z, N, ext, rx, L) I E 2 [some (.ref 512), some (.int v1), some (.int v2)] [] [] [])
    refine q_blf 7 [] (a := q_kc (t, r, m, z, N, ext, rx, L) I E 19 [some (.ref 512), some (.int v1), some (.int v2)] [] [] []) (b := q_kc (t, r, m, z, N, ext, rx, L) I E 10 [some (.ref 512), some (.int v1), some (.int v2)] [] [] []) (P := ((I 499) 2) < (v2 + v1)) ok_X14_gapFor rfl q_cn (fun h1 => ?_) (fun h1 => ?_)
    · have hf := q_ip h1 hf
      refine q_less (ls' := [none, none, none]) (q_sb1 (q_sb1 (q_sb1 q_sb0))) ?_
      cases hf
      exact q_Jpad [] [] rfl rfl (hK0 rfl)
    · have hf := q_in h1 hf
      refine q_blk 2 [] (c' := q_kc (t, r, m, z, N, ext, rx, L) I E 12 [some (.ref 512), some (.int v1), some (.int v2)] [.int v2, .ref 512] [] []) ok_X14_gapFor rfl q_cn ?_
      obtain ⟨r2, hr2, hf⟩ := q_bd hf
      refine q_kV (M2 := m_X14_emptyFrom) (As := [.int v2]) (b := 512) (v2 := some (.int r2)) ok_X14_gapFor ok_X14_emptyFrom cv_X14_emptyFrom (ct_X14_emptyFrom_512 (d := 2) (Nat.le_refl _) hr2) rfl rfl (Or.inl rfl) rfl rfl rfl rfl (Nat.le_trans (Nat.le_of_ble_eq_true rfl) hd) hk hn (Nat.le_of_ble_eq_true rfl) (fun x hx => absurd hx List.not_mem_nil) (q_nmL0 _) (q_nmS0 _) rfl (pos' := 13) (st' := [.int r2]) (lI' := []) (lE' := []) rfl rfl rfl rfl ?_
      refine q_blf 1 [] (a := q_kc (t, r, m, z, N, ext, rx, L) I E 17 [some (.ref 512), some (.int v1), some (.int v2)] [] [] []) (b := q_kc (t, r, m, z, N, ext, rx, L) I E 15 [some (.ref 512), some (.int v1), some (.int v2)] [] [] []) (P := r2 < v1) ok_X14_gapFor rfl q_cn (fun h3 => ?_) (fun h3 => ?_)
      · have hf := q_ip h3 hf
        refine q_blk 2 [] (c' := q_kc (t, r, m, z, N, ext, rx, L) I E 2 [some (.ref 512), some (.int v1), some (.int (v2 + 1))] [] [] []) ok_X14_gapFor rfl q_cn ?_
        exact ih (I := q_ws I []) (E := q_ws E []) hf (fun hz => q_Jmrg rfl rfl (hK0 hz)) (fun hz => q_Jmrg rfl rfl (hK1 hz))
      · have hf := q_in h3 hf
        refine q_less (ls' := [none, none, some (.int v2)]) (q_sb1 (q_sb1 (q_sb2 q_sb0))) ?_
        cases hf
        exact q_Jpad [] [] rfl rfl (hK1 rfl)
set_option maxHeartbeats 4000000 in
theorem ct_X14_gapFor_512 {g : q_G} {t : Nat} {r : Nat} {m : Nat} {z : Nat} {N : Nat} {ext : Nat → q_Sh} {rx : Nat → Nat → Option Nat} {L : Nat → Nat → Int64} {d : Nat} (hd : 3 ≤ d)  {I : Nat → Nat → Int32} {E : Nat → Nat → Option Nat} {x1 : Int32} {r0 : Int32} (hf : f_X14_gapFor (I 499) (I 514) (I 515) (I 516) x1 = some r0) : q_Ct g m_X14_gapFor d 0 0 [] [.ref 512, .int x1] (q_hp (t, r, m, z, N, ext, rx, L) I E) (fun o h' => o = .inl (some (.int r0)) ∧ h' = q_hp (t, r, m, z, N, ext, rx, L) (q_ws I []) (q_ws E [])) := by
  rw [f_X14_gapFor] at hf
  refine q_Ct_of ok_X14_gapFor (Nat.le_of_ble_eq_true rfl) ?_ _ rfl rfl
  change q_J g m_X14_gapFor d 0 0 _ [] _ 0 0 (q_kc (t, r, m, z, N, ext, rx, L) I E 0 [some (.ref 512), some (.int x1), none] [] [] [])
  refine q_blk 2 [] (c' := q_kc (t, r, m, z, N, ext, rx, L) I E 2 [some (.ref 512), some (.int x1), some (.int (0 : Int32))] [] [] []) ok_X14_gapFor rfl q_cn ?_
  obtain ⟨r4, hr4, hf⟩ := q_bd hf
  refine lp_X14_gapFor_L2_512 (I := q_ws I []) (E := q_ws E []) hd (Nat.le_of_ble_eq_true rfl) (Nat.le_of_ble_eq_true rfl) 4096 hr4 ?_ ?_
  · intro hz0
    have hf := q_ip hz0 hf
    refine q_Jmrg (lI' := []) (lE' := []) rfl rfl ?_
    refine q_blk 1 [] (c' := q_kc (t, r, m, z, N, ext, rx, L) I E 20 [none, none, none] [.int (-1 : Int32)] [] []) ok_X14_gapFor rfl q_cn ?_
    cases hf
    exact q_kri ok_X14_gapFor rfl rfl rfl (Nat.le_of_ble_eq_true rfl) (Nat.le_of_ble_eq_true rfl) ⟨rfl, q_hpe (q_fin [] rfl) (q_fin [] rfl)⟩
  · intro hz1
    have hf := q_in (fun h9 => absurd (hz1.symm.trans h9) (by decide)) hf
    refine q_Jmrg (lI' := []) (lE' := []) rfl rfl ?_
    refine q_blk 1 [] (c' := q_kc (t, r, m, z, N, ext, rx, L) I E 16 [none, none, some (.int r4.2)] [.int r4.2] [] []) ok_X14_gapFor rfl q_cn ?_
    cases hf
    exact q_kri ok_X14_gapFor rfl rfl rfl (Nat.le_of_ble_eq_true rfl) (Nat.le_of_ble_eq_true rfl) ⟨rfl, q_hpe (q_fin [] rfl) (q_fin [] rfl)⟩
set_option maxHeartbeats 4000000 in
theorem ct_X14_takeOver_512_529_O {g : q_G} {t : Nat} {r : Nat} {m : Nat} {z : Nat} {ext : Nat → q_Sh} {rx : Nat → Nat → Option Nat} {L : Nat → Nat → Int64} {d : Nat} (hd : 4 ≤ d)  {I : Nat → Nat → Int32} {E : Nat → Nat → Option Nat} {x1 : Int32} {x2 : Int32} {r0 : Int32 × (Nat → Int32) × (Nat → Int32) × (Nat → Int32) × (Nat → Int32) × (Nat → Int32) × (Nat → Int32) × (Nat → Int32)} (hf : f_X14_takeOver (I 492) (I 499) (I 510) (I 511) (I 512) (I 514) (I 515) (I 516) (I 518) (I 529) x1 x2 = some r0) : q_Ct g m_X14_takeOver d 0 0 [] [.ref 512, .int x1, .int x2, .ref 529] (q_hp (t, r, m, z, 530, (q_ur ext 529 (1, 0, 136)), rx, L) I E) (fun o h' => o = .inl (some (.int r0.1)) ∧ h' = q_hp (t, r, m, z, 530, (q_ur ext 529 (1, 0, 136)), rx, L) (q_ws I [(492, r0.2.1), (510, r0.2.2.1), (511, r0.2.2.2.1), (512, r0.2.2.2.2.1), (514, r0.2.2.2.2.2.1), (515, r0.2.2.2.2.2.2.1), (518, r0.2.2.2.2.2.2.2)]) (q_ws E [])) := by
  rw [f_X14_takeOver] at hf
  refine q_Ct_of ok_X14_takeOver (Nat.le_of_ble_eq_true rfl) ?_ _ rfl rfl
  change q_J g m_X14_takeOver d 0 0 _ [] _ 0 0 (q_kc (t, r, m, z, 530, (q_ur ext 529 (1, 0, 136)), rx, L) I E 0 [some (.ref 512), some (.int x1), some (.int x2), some (.ref 529), none] [] [] [])
  refine q_blf 2 [] (a := q_kc (t, r, m, z, 530, (q_ur ext 529 (1, 0, 136)), rx, L) I E 14 [some (.ref 512), some (.int x1), some (.int x2), some (.ref 529), none] [] [] []) (b := q_kc (t, r, m, z, 530, (q_ur ext 529 (1, 0, 136)), rx, L) I E 3 [some (.ref 512), some (.int x1), some (.int x2), some (.ref 529), none] [] [] []) (P := x1 = (-1 : Int32)) ok_X14_takeOver rfl q_cn (fun h1 => ?_) (fun h1 => ?_)
  · have hf := q_ip h1 hf
    refine q_blk 1 [] (c' := q_kc (t, r, m, z, 530, (q_ur ext 529 (1, 0, 136)), rx, L) I E 15 [some (.ref 512), some (.int x1), some (.int x2), some (.ref 529), none] [.int x2] [] []) ok_X14_takeOver rfl q_cn ?_
    cases hf
    exact q_kri ok_X14_takeOver rfl rfl rfl (Nat.le_of_ble_eq_true rfl) (Nat.le_of_ble_eq_true rfl) ⟨rfl, q_hpe (q_fin [492, 510, 511, 512, 514, 515, 518] rfl) (q_fin [] rfl)⟩
  · have hf := q_in h1 hf
    obtain ⟨j2, hj2, hf⟩ := q_bd hf
    refine q_blf 4 [j2] (a := q_kc (t, r, m, z, 530, (q_ur ext 529 (1, 0, 136)), rx, L) I E 14 [some (.ref 512), some (.int x1), some (.int x2), some (.ref 529), none] [] [] []) (b := q_kc (t, r, m, z, 530, (q_ur ext 529 (1, 0, 136)), rx, L) I E 8 [some (.ref 512), some (.int x1), some (.int x2), some (.ref 529), none] [] [] []) (P := ¬ ((I 529) j2) = (1 : Int32)) ok_X14_takeOver rfl (q_cc hj2 q_cn) (fun h3 => ?_) (fun h3 => ?_)
    · have hf := q_ip h3 hf
      refine q_blk 1 [] (c' := q_kc (t, r, m, z, 530, (q_ur ext 529 (1, 0, 136)), rx, L) I E 15 [some (.ref 512), some (.int x1), some (.int x2), some (.ref 529), none] [.int x2] [] []) ok_X14_takeOver rfl q_cn ?_
      cases hf
      exact q_kri ok_X14_takeOver rfl rfl rfl (Nat.le_of_ble_eq_true rfl) (Nat.le_of_ble_eq_true rfl) ⟨rfl, q_hpe (q_fin [492, 510, 511, 512, 514, 515, 518] rfl) (q_fin [] rfl)⟩
    · have hf := q_in h3 hf
      obtain ⟨j4, hj4, hf⟩ := q_bd hf
      refine q_blf 5 [j4] (a := q_kc (t, r, m, z, 530, (q_ur ext 529 (1, 0, 136)), rx, L) I E 16 [some (.ref 512), some (.int x1), some (.int x2), some (.ref 529), none] [] [] []) (b := q_kc (t, r, m, z, 530, (q_ur ext 529 (1, 0, 136)), rx, L) I E 14 [some (.ref 512), some (.int x1), some (.int x2), some (.ref 529), none] [] [] []) (P := ((I 511) j4) = 0) ok_X14_takeOver rfl (q_cc hj4 q_cn) (fun h5 => ?_) (fun h5 => ?_)
      · have hf := q_ip h5 hf
        refine q_blk 2 [] (c' := q_kc (t, r, m, z, 530, (q_ur ext 529 (1, 0, 136)), rx, L) I E 18 [some (.ref 512), some (.int x1), some (.int x2), some (.ref 529), none] [.int x1, .ref 512] [] []) ok_X14_takeOver rfl q_cn ?_
        obtain ⟨r6, hr6, hf⟩ := q_bd hf
        refine q_kV (M2 := m_X14_comeTo) (As := [.int x1]) (b := 512) (v2 := none) ok_X14_takeOver ok_X14_comeTo cv_X14_comeTo (ct_X14_comeTo_512 (d := 1) (Nat.le_refl _) hr6) rfl rfl (Or.inl rfl) rfl rfl rfl rfl (Nat.le_trans (Nat.le_of_ble_eq_true rfl) hd) (Nat.le_of_ble_eq_true rfl) (Nat.le_of_ble_eq_true rfl) (Nat.le_of_ble_eq_true rfl) (fun x hx => absurd hx List.not_mem_nil) (q_nmL0 _) (q_nmS0 _) rfl (pos' := 19) (st' := []) (lI' := [(492, r6.1), (510, r6.2.1), (511, r6.2.2)]) (lE' := []) rfl rfl rfl rfl ?_
        obtain ⟨j7, hj7, hf⟩ := q_bd hf
        refine q_blf 8 [j7] (a := q_kc (t, r, m, z, 530, (q_ur ext 529 (1, 0, 136)), rx, L) I E 35 [some (.ref 512), some (.int x1), some (.int x2), some (.ref 529), none] [] [(492, r6.1), (510, r6.2.1), (511, r6.2.2)] []) (b := q_kc (t, r, m, z, 530, (q_ur ext 529 (1, 0, 136)), rx, L) I E 28 [some (.ref 512), some (.int x1), some (.int x2), some (.ref 529), none] [] [(492, r6.1), (510, r6.2.1), (511, r6.2.2)] []) (P := ((I 518) j7) < ((I 499) 3)) ok_X14_takeOver rfl (q_cc hj7 q_cn) (fun h8 => ?_) (fun h8 => ?_)
        · have hf := q_ip h8 hf
          refine q_blf 4 [] (a := q_kc (t, r, m, z, 530, (q_ur ext 529 (1, 0, 136)), rx, L) I E 58 [some (.ref 512), some (.int x1), some (.int x2), some (.ref 529), some (.int (-1 : Int32))] [] [(492, r6.1), (510, r6.2.1), (511, r6.2.2)] []) (b := q_kc (t, r, m, z, 530, (q_ur ext 529 (1, 0, 136)), rx, L) I E 40 [some (.ref 512), some (.int x1), some (.int x2), some (.ref 529), some (.int (-1 : Int32))] [] [(492, r6.1), (510, r6.2.1), (511, r6.2.2)] []) (P := (-1 : Int32) = (-1 : Int32)) ok_X14_takeOver rfl q_cn (fun h9 => ?_) (fun h9 => ?_)
          · have hf := q_ip h9 hf
            obtain ⟨j10, hj10, hf⟩ := q_bd hf
            obtain ⟨j11, hj11, hf⟩ := q_bd hf
            obtain ⟨j12, hj12, hf⟩ := q_bd hf
            obtain ⟨j13, hj13, hf⟩ := q_bd hf
            obtain ⟨j14, hj14, hf⟩ := q_bd hf
            refine q_blk 24 [j10, j11, j12, j13, j14] (c' := q_kc (t, r, m, z, 530, (q_ur ext 529 (1, 0, 136)), rx, L) I E 82 [some (.ref 512), some (.int x1), some (.int x2), some (.ref 529), some (.int (-1 : Int32))] [.int (x2 + ((I 516) j14))] [(492, r6.1), (510, r6.2.1), (511, r6.2.2), (514, (q_up (I 514) j10 (1 : Int32))), (515, (q_up (I 515) j11 x2)), (518, (q_up (I 518) j13 (((I 518) j12) + (1 : Int32))))] []) ok_X14_takeOver rfl (q_cc hj14 (q_cc hj13 (q_cc hj12 (q_cc hj11 (q_cc hj10 q_cn))))) ?_
            cases hf
            exact q_kri ok_X14_takeOver rfl rfl rfl (Nat.le_of_ble_eq_true rfl) (Nat.le_of_ble_eq_true rfl) ⟨rfl, q_hpe (q_fin [492, 510, 511, 512, 514, 515, 518] rfl) (q_fin [] rfl)⟩
          · have hf := q_in h9 hf
            obtain ⟨j15, hj15, hf⟩ := q_bd hf
            obtain ⟨j16, hj16, hf⟩ := q_bd hf
            refine q_blk 17 [j15, j16] (c' := q_kc (t, r, m, z, 530, (q_ur ext 529 (1, 0, 136)), rx, L) I E 57 [some (.ref 512), some (.int x1), some (.int x2), some (.ref 529), some (.int (-1 : Int32))] [.int x2] [(492, r6.1), (510, r6.2.1), (511, r6.2.2), (512, (q_up (I 512) 4 (((I 512) 4) + (1 : Int32)))), (514, (q_up (I 514) j15 (2 : Int32))), (515, (q_up (I 515) j16 (-1 : Int32)))] []) ok_X14_takeOver rfl (q_cc hj16 (q_cc hj15 q_cn)) ?_
            cases hf
            exact q_kri ok_X14_takeOver rfl rfl rfl (Nat.le_of_ble_eq_true rfl) (Nat.le_of_ble_eq_true rfl) ⟨rfl, q_hpe (q_fin [492, 510, 511, 512, 514, 515, 518] rfl) (q_fin [] rfl)⟩
        · have hf := q_in h8 hf
          obtain ⟨j17, hj17, hf⟩ := q_bd hf
          refine q_blk 5 [j17] (c' := q_kc (t, r, m, z, 530, (q_ur ext 529 (1, 0, 136)), rx, L) I E 33 [some (.ref 512), some (.int x1), some (.int x2), some (.ref 529), none] [.int ((I 516) j17), .ref 512] [(492, r6.1), (510, r6.2.1), (511, r6.2.2)] []) ok_X14_takeOver rfl (q_cc hj17 q_cn) ?_
          obtain ⟨r18, hr18, hf⟩ := q_bd hf
          refine q_kV (M2 := m_X14_gapFor) (As := [.int ((I 516) j17)]) (b := 512) (v2 := some (.int r18)) ok_X14_takeOver ok_X14_gapFor cv_X14_gapFor (ct_X14_gapFor_512 (d := 3) (Nat.le_refl _) hr18) rfl rfl (Or.inl rfl) rfl rfl rfl rfl (Nat.le_trans (Nat.le_of_ble_eq_true rfl) hd) (Nat.le_of_ble_eq_true rfl) (Nat.le_of_ble_eq_true rfl) (Nat.le_of_ble_eq_true rfl) (fun x hx => absurd hx List.not_mem_nil) (q_nmL0 _) (q_nmS0 _) rfl (pos' := 34) (st' := [.int r18]) (lI' := [(492, r6.1), (510, r6.2.1), (511, r6.2.2)]) (lE' := []) rfl rfl rfl rfl ?_
          refine q_blf 4 [] (a := q_kc (t, r, m, z, 530, (q_ur ext 529 (1, 0, 136)), rx, L) I E 58 [some (.ref 512), some (.int x1), some (.int x2), some (.ref 529), some (.int r18)] [] [(492, r6.1), (510, r6.2.1), (511, r6.2.2)] []) (b := q_kc (t, r, m, z, 530, (q_ur ext 529 (1, 0, 136)), rx, L) I E 40 [some (.ref 512), some (.int x1), some (.int x2), some (.ref 529), some (.int r18)] [] [(492, r6.1), (510, r6.2.1), (511, r6.2.2)] []) (P := r18 = (-1 : Int32)) ok_X14_takeOver rfl q_cn (fun h19 => ?_) (fun h19 => ?_)
          · have hf := q_ip h19 hf
            obtain ⟨j20, hj20, hf⟩ := q_bd hf
            obtain ⟨j21, hj21, hf⟩ := q_bd hf
            obtain ⟨j22, hj22, hf⟩ := q_bd hf
            obtain ⟨j23, hj23, hf⟩ := q_bd hf
            obtain ⟨j24, hj24, hf⟩ := q_bd hf
            refine q_blk 24 [j20, j21, j22, j23, j24] (c' := q_kc (t, r, m, z, 530, (q_ur ext 529 (1, 0, 136)), rx, L) I E 82 [some (.ref 512), some (.int x1), some (.int x2), some (.ref 529), some (.int r18)] [.int (x2 + ((I 516) j24))] [(492, r6.1), (510, r6.2.1), (511, r6.2.2), (514, (q_up (I 514) j20 (1 : Int32))), (515, (q_up (I 515) j21 x2)), (518, (q_up (I 518) j23 (((I 518) j22) + (1 : Int32))))] []) ok_X14_takeOver rfl (q_cc hj24 (q_cc hj23 (q_cc hj22 (q_cc hj21 (q_cc hj20 q_cn))))) ?_
            cases hf
            exact q_kri ok_X14_takeOver rfl rfl rfl (Nat.le_of_ble_eq_true rfl) (Nat.le_of_ble_eq_true rfl) ⟨rfl, q_hpe (q_fin [492, 510, 511, 512, 514, 515, 518] rfl) (q_fin [] rfl)⟩
          · have hf := q_in h19 hf
            obtain ⟨j25, hj25, hf⟩ := q_bd hf
            obtain ⟨j26, hj26, hf⟩ := q_bd hf
            refine q_blk 17 [j25, j26] (c' := q_kc (t, r, m, z, 530, (q_ur ext 529 (1, 0, 136)), rx, L) I E 57 [some (.ref 512), some (.int x1), some (.int x2), some (.ref 529), some (.int r18)] [.int x2] [(492, r6.1), (510, r6.2.1), (511, r6.2.2), (512, (q_up (I 512) 4 (((I 512) 4) + (1 : Int32)))), (514, (q_up (I 514) j25 (2 : Int32))), (515, (q_up (I 515) j26 r18))] []) ok_X14_takeOver rfl (q_cc hj26 (q_cc hj25 q_cn)) ?_
            cases hf
            exact q_kri ok_X14_takeOver rfl rfl rfl (Nat.le_of_ble_eq_true rfl) (Nat.le_of_ble_eq_true rfl) ⟨rfl, q_hpe (q_fin [492, 510, 511, 512, 514, 515, 518] rfl) (q_fin [] rfl)⟩
      · have hf := q_in h5 hf
        refine q_blk 1 [] (c' := q_kc (t, r, m, z, 530, (q_ur ext 529 (1, 0, 136)), rx, L) I E 15 [some (.ref 512), some (.int x1), some (.int x2), some (.ref 529), none] [.int x2] [] []) ok_X14_takeOver rfl q_cn ?_
        cases hf
        exact q_kri ok_X14_takeOver rfl rfl rfl (Nat.le_of_ble_eq_true rfl) (Nat.le_of_ble_eq_true rfl) ⟨rfl, q_hpe (q_fin [492, 510, 511, 512, 514, 515, 518] rfl) (q_fin [] rfl)⟩
set_option maxHeartbeats 4000000 in
theorem lp_X14_takeRopes_L4_512_529_O {g : q_G} {d mc ms : Nat} {h0 : q_H} {Q : (Option Value ⊕ String) → q_H → Prop} {k n : Nat} {t : Nat} {r : Nat} {m : Nat} {z : Nat} {ext : Nat → q_Sh} {rx : Nat → Nat → Option Nat} {L : Nat → Nat → Int64} (hd : 5 ≤ d) (hk : k ≤ mc) (hn : n ≤ ms)  {v1 : Int32} : ∀ (fu : Nat) {I : Nat → Nat → Int32} {E : Nat → Nat → Option Nat} {v4 : Int32} {v5 : Int32} {r0 : Int32 × (Nat → Int32) × (Nat → Int32) × (Nat → Int32) × (Nat → Int32) × (Nat → Int32) × (Nat → Int32) × (Nat → Int32)} (hf : f_X14_takeRopes_L4 (I 499) (I 516) (I 517) (I 519) (I 529) v1 fu (I 492) (I 510) (I 511) (I 512) (I 514) (I 515) (I 518) v4 v5 = some r0) (hK0 : q_J g m_X14_takeRopes d mc ms h0 [] Q k n (q_kc (t, r, m, z, 530, (q_ur ext 529 (1, 0, 136)), rx, L) I E 25 [none, none, none, none, some (.int r0.1), none] [] [(492, r0.2.1), (510, r0.2.2.1), (511, r0.2.2.2.1), (512, r0.2.2.2.2.1), (514, r0.2.2.2.2.2.1), (515, r0.2.2.2.2.2.2.1), (518, r0.2.2.2.2.2.2.2)] [])), q_J g m_X14_takeRopes d mc ms h0 [] Q k n (4, [some (.ref 512), some (.int v1), none, some (.ref 529), some (.int v4), some (.int v5)], [], q_hp (t, r, m, z, 530, (q_ur ext 529 (1, 0, 136)), rx, L) I E) := by
  intro fu
  induction fu with
  | zero =>
    intro I E v4 v5 r0 hf hK0
    rw [f_X14_takeRopes_L4] at hf
    cases hf
  | succ fu ih =>
    intro I E v4 v5 r0 hf hK0
    rw [f_X14_takeRopes_L4] at hf
    change q_J g m_X14_takeRopes d mc ms h0 [] Q k n (q_kc (t, r, m, z, 530, (q_ur ext 529 (1, 0, 136)), rx, L) I E 4 [some (.ref 512), some (.int v1), none, some (.ref 529), some (.int v4), some (.int v5)] [] [] [])
    obtain ⟨j1, hj1, hf⟩ := q_bd hf
    refine q_blf 5 [j1] (a := q_kc (t, r, m, z, 530, (q_ur ext 529 (1, 0, 136)), rx, L) I E 25 [some (.ref 512), some (.int v1), none, some (.ref 529), some (.int v4), some (.int v5)] [] [] []) (b := q_kc (t, r, m, z, 530, (q_ur ext 529 (1, 0, 136)), rx, L) I E 10 [some (.ref 512), some (.int v1), none, some (.ref 529), some (.int v4), some (.int v5)] [] [] []) (P := ((I 517) j1) ≤ v5) ok_X14_takeRopes rfl (q_cc hj1 q_cn) (fun h2 => ?_) (fun h2 => ?_)
    · have hf := q_ip h2 hf
      refine q_less (ls' := [none, none, none, none, some (.int v4), none]) (q_sb1 (q_sb1 (q_sb1 (q_sb1 (q_sb2 (q_sb1 q_sb0)))))) ?_
      cases hf
      exact q_Jpad [492, 510, 511, 512, 514, 515, 518] [] rfl rfl hK0
    · have hf := q_in h2 hf
      obtain ⟨j3, hj3, hf⟩ := q_bd hf
      refine q_blk 11 [j3] (c' := q_kc (t, r, m, z, 530, (q_ur ext 529 (1, 0, 136)), rx, L) I E 21 [some (.ref 512), some (.int v1), none, some (.ref 529), some (.int v4), some (.int v5)] [.ref 529, .int v4, .int ((I 519) j3), .ref 512] [] []) ok_X14_takeRopes rfl (q_cc hj3 q_cn) ?_
      obtain ⟨r4, hr4, hf⟩ := q_bd hf
      refine q_kV (M2 := m_X14_takeOver) (As := [.int ((I 519) j3), .int v4, .ref 529]) (b := 512) (v2 := some (.int r4.1)) ok_X14_takeRopes ok_X14_takeOver cv_X14_takeOver (ct_X14_takeOver_512_529_O (d := 4) (Nat.le_refl _) hr4) rfl rfl (Or.inl rfl) rfl rfl rfl rfl (Nat.le_trans (Nat.le_of_ble_eq_true rfl) hd) hk hn (Nat.le_of_ble_eq_true rfl) (fun x hx => absurd hx List.not_mem_nil) (q_nmL0 _) (q_nmS0 _) rfl (pos' := 22) (st' := [.int r4.1]) (lI' := [(492, r4.2.1), (510, r4.2.2.1), (511, r4.2.2.2.1), (512, r4.2.2.2.2.1), (514, r4.2.2.2.2.2.1), (515, r4.2.2.2.2.2.2.1), (518, r4.2.2.2.2.2.2.2)]) (lE' := []) rfl rfl rfl rfl ?_
      refine q_blk 3 [] (c' := q_kc (t, r, m, z, 530, (q_ur ext 529 (1, 0, 136)), rx, L) I E 4 [some (.ref 512), some (.int v1), none, some (.ref 529), some (.int r4.1), some (.int (v5 + 1))] [] [(492, r4.2.1), (510, r4.2.2.1), (511, r4.2.2.2.1), (512, r4.2.2.2.2.1), (514, r4.2.2.2.2.2.1), (515, r4.2.2.2.2.2.2.1), (518, r4.2.2.2.2.2.2.2)] []) ok_X14_takeRopes rfl q_cn ?_
      exact ih (I := q_ws I [(492, r4.2.1), (510, r4.2.2.1), (511, r4.2.2.2.1), (512, r4.2.2.2.2.1), (514, r4.2.2.2.2.2.1), (515, r4.2.2.2.2.2.2.1), (518, r4.2.2.2.2.2.2.2)]) (E := q_ws E []) hf (q_Jmrg rfl rfl hK0)
set_option maxHeartbeats 4000000 in
theorem ct_X14_takeRopes_512_529_O {g : q_G} {t : Nat} {r : Nat} {m : Nat} {z : Nat} {ext : Nat → q_Sh} {rx : Nat → Nat → Option Nat} {L : Nat → Nat → Int64} {d : Nat} (hd : 5 ≤ d)  {I : Nat → Nat → Int32} {E : Nat → Nat → Option Nat} {x1 : Int32} {x2 : Int32} {r0 : Int32 × (Nat → Int32) × (Nat → Int32) × (Nat → Int32) × (Nat → Int32) × (Nat → Int32) × (Nat → Int32) × (Nat → Int32)} (hf : f_X14_takeRopes (I 492) (I 499) (I 510) (I 511) (I 512) (I 514) (I 515) (I 516) (I 517) (I 518) (I 519) (I 529) x1 x2 = some r0) : q_Ct g m_X14_takeRopes d 0 0 [] [.ref 512, .int x1, .int x2, .ref 529] (q_hp (t, r, m, z, 530, (q_ur ext 529 (1, 0, 136)), rx, L) I E) (fun o h' => o = .inl (some (.int r0.1)) ∧ h' = q_hp (t, r, m, z, 530, (q_ur ext 529 (1, 0, 136)), rx, L) (q_ws I [(492, r0.2.1), (510, r0.2.2.1), (511, r0.2.2.2.1), (512, r0.2.2.2.2.1), (514, r0.2.2.2.2.2.1), (515, r0.2.2.2.2.2.2.1), (518, r0.2.2.2.2.2.2.2)]) (q_ws E [])) := by
  rw [f_X14_takeRopes] at hf
  refine q_Ct_of ok_X14_takeRopes (Nat.le_of_ble_eq_true rfl) ?_ _ rfl rfl
  change q_J g m_X14_takeRopes d 0 0 _ [] _ 0 0 (q_kc (t, r, m, z, 530, (q_ur ext 529 (1, 0, 136)), rx, L) I E 0 [some (.ref 512), some (.int x1), some (.int x2), some (.ref 529), none, none] [] [] [])
  refine q_blk 4 [] (c' := q_kc (t, r, m, z, 530, (q_ur ext 529 (1, 0, 136)), rx, L) I E 4 [some (.ref 512), some (.int x1), some (.int x2), some (.ref 529), some (.int x2), some (.int (0 : Int32))] [] [] []) ok_X14_takeRopes rfl q_cn ?_
  refine q_less (ls' := [some (.ref 512), some (.int x1), none, some (.ref 529), some (.int x2), some (.int (0 : Int32))]) (q_sb2 (q_sb2 (q_sb1 (q_sb2 (q_sb2 (q_sb2 q_sb0)))))) ?_
  obtain ⟨r5, hr5, hf⟩ := q_bd hf
  refine lp_X14_takeRopes_L4_512_529_O (I := q_ws I []) (E := q_ws E []) hd (Nat.le_of_ble_eq_true rfl) (Nat.le_of_ble_eq_true rfl) 4096 hr5 ?_
  refine q_Jmrg (lI' := [(492, r5.2.1), (510, r5.2.2.1), (511, r5.2.2.2.1), (512, r5.2.2.2.2.1), (514, r5.2.2.2.2.2.1), (515, r5.2.2.2.2.2.2.1), (518, r5.2.2.2.2.2.2.2)]) (lE' := []) rfl rfl ?_
  refine q_blk 1 [] (c' := q_kc (t, r, m, z, 530, (q_ur ext 529 (1, 0, 136)), rx, L) I E 26 [none, none, none, none, some (.int r5.1), none] [.int r5.1] [(492, r5.2.1), (510, r5.2.2.1), (511, r5.2.2.2.1), (512, r5.2.2.2.2.1), (514, r5.2.2.2.2.2.1), (515, r5.2.2.2.2.2.2.1), (518, r5.2.2.2.2.2.2.2)] []) ok_X14_takeRopes rfl q_cn ?_
  cases hf
  exact q_kri ok_X14_takeRopes rfl rfl rfl (Nat.le_of_ble_eq_true rfl) (Nat.le_of_ble_eq_true rfl) ⟨rfl, q_hpe (q_fin [492, 510, 511, 512, 514, 515, 518] rfl) (q_fin [] rfl)⟩
set_option maxHeartbeats 4000000 in
theorem lp_X14_copyAll_L16_512 {g : q_G} {d mc ms : Nat} {h0 : q_H} {Q : (Option Value ⊕ String) → q_H → Prop} {k n : Nat} {t : Nat} {r : Nat} {m : Nat} {z : Nat} {ext : Nat → q_Sh} {rx : Nat → Nat → Option Nat} {L : Nat → Nat → Int64} (hd : 6 ≤ d) (hk : k ≤ mc) (hn : n ≤ ms)  {v2 : Int32} : ∀ (fu : Nat) {I : Nat → Nat → Int32} {E : Nat → Nat → Option Nat} {v3 : Int32} {r0 : (Nat → Int32)} (hf : f_X14_copyAll_L16 (I 529) fu (I 514) v3 = some r0) (hK0 : q_J g m_X14_copyAll d mc ms h0 [] Q k n (q_kc (t, r, m, z, 530, (q_ur ext 529 (1, 0, 136)), rx, L) I E 31 [some (.ref 512), some (.ref 529), some (.int v2), none, none, none] [] [(514, r0)] [])), q_J g m_X14_copyAll d mc ms h0 [] Q k n (16, [some (.ref 512), some (.ref 529), some (.int v2), some (.int v3), none, none], [], q_hp (t, r, m, z, 530, (q_ur ext 529 (1, 0, 136)), rx, L) I E) := by
  intro fu
  induction fu with
  | zero =>
    intro I E v3 r0 hf hK0
    rw [f_X14_copyAll_L16] at hf
    cases hf
  | succ fu ih =>
    intro I E v3 r0 hf hK0
    rw [f_X14_copyAll_L16] at hf
    change q_J g m_X14_copyAll d mc ms h0 [] Q k n (q_kc (t, r, m, z, 530, (q_ur ext 529 (1, 0, 136)), rx, L) I E 16 [some (.ref 512), some (.ref 529), some (.int v2), some (.int v3), none, none] [] [] [])
    refine q_blf 2 [] (a := q_kc (t, r, m, z, 530, (q_ur ext 529 (1, 0, 136)), rx, L) I E 31 [some (.ref 512), some (.ref 529), some (.int v2), some (.int v3), none, none] [] [] []) (b := q_kc (t, r, m, z, 530, (q_ur ext 529 (1, 0, 136)), rx, L) I E 19 [some (.ref 512), some (.ref 529), some (.int v2), some (.int v3), none, none] [] [] []) (P := (136 : Int32) ≤ v3) ok_X14_copyAll rfl q_cn (fun h1 => ?_) (fun h1 => ?_)
    · have hf := q_ip h1 hf
      refine q_less (ls' := [some (.ref 512), some (.ref 529), some (.int v2), none, none, none]) (q_sb2 (q_sb2 (q_sb2 (q_sb1 (q_sb1 (q_sb1 q_sb0)))))) ?_
      cases hf
      exact q_Jpad [514] [] rfl rfl hK0
    · have hf := q_in h1 hf
      obtain ⟨j2, hj2, hf⟩ := q_bd hf
      refine q_blf 4 [j2] (a := q_kc (t, r, m, z, 530, (q_ur ext 529 (1, 0, 136)), rx, L) I E 29 [some (.ref 512), some (.ref 529), some (.int v2), some (.int v3), none, none] [] [] []) (b := q_kc (t, r, m, z, 530, (q_ur ext 529 (1, 0, 136)), rx, L) I E 24 [some (.ref 512), some (.ref 529), some (.int v2), some (.int v3), none, none] [] [] []) (P := ¬ ((I 529) j2) = (1 : Int32)) ok_X14_copyAll rfl (q_cc hj2 q_cn) (fun h3 => ?_) (fun h3 => ?_)
      · have hf := q_ip h3 hf
        refine q_blk 2 [] (c' := q_kc (t, r, m, z, 530, (q_ur ext 529 (1, 0, 136)), rx, L) I E 16 [some (.ref 512), some (.ref 529), some (.int v2), some (.int (v3 + 1)), none, none] [] [] []) ok_X14_copyAll rfl q_cn ?_
        exact ih (I := q_ws I []) (E := q_ws E []) hf (q_Jmrg rfl rfl hK0)
      · have hf := q_in h3 hf
        obtain ⟨j4, hj4, hf⟩ := q_bd hf
        refine q_blk 7 [j4] (c' := q_kc (t, r, m, z, 530, (q_ur ext 529 (1, 0, 136)), rx, L) I E 16 [some (.ref 512), some (.ref 529), some (.int v2), some (.int (v3 + 1)), none, none] [] [(514, (q_up (I 514) j4 (0 : Int32)))] []) ok_X14_copyAll rfl (q_cc hj4 q_cn) ?_
        exact ih (I := q_ws I [(514, (q_up (I 514) j4 (0 : Int32)))]) (E := q_ws E []) hf (q_Jmrg rfl rfl hK0)
set_option maxHeartbeats 4000000 in
theorem lp_X14_copyAll_L88_512 {g : q_G} {d mc ms : Nat} {h0 : q_H} {Q : (Option Value ⊕ String) → q_H → Prop} {k n : Nat} {t : Nat} {r : Nat} {m : Nat} {z : Nat} {ext : Nat → q_Sh} {rx : Nat → Nat → Option Nat} {L : Nat → Nat → Int64} (hd : 6 ≤ d) (hk : k ≤ mc) (hn : n ≤ ms)  {v2 : Int32} : ∀ (fu : Nat) {I : Nat → Nat → Int32} {E : Nat → Nat → Option Nat} {v3 : Int32} {v4 : Int32} {r0 : (Nat → Int32) × (Nat → Int32) × (Nat → Int32) × (Nat → Int32) × (Nat → Int32) × (Nat → Int32) × (Nat → Int32)} (hf : f_X14_copyAll_L88 (I 499) (I 516) (I 517) (I 519) (I 529) fu (I 492) (I 510) (I 511) (I 512) (I 514) (I 515) (I 518) v3 v4 = some r0) (hK0 : q_J g m_X14_copyAll d mc ms h0 [] Q k n (q_kc (t, r, m, z, 530, (q_ur ext 529 (1, 0, 136)), rx, L) I E 105 [some (.ref 512), none, some (.int v2), none, none, none] [] [(492, r0.1), (510, r0.2.1), (511, r0.2.2.1), (512, r0.2.2.2.1), (514, r0.2.2.2.2.1), (515, r0.2.2.2.2.2.1), (518, r0.2.2.2.2.2.2)] [])), q_J g m_X14_copyAll d mc ms h0 [] Q k n (88, [some (.ref 512), some (.ref 529), some (.int v2), some (.int v3), some (.int v4), none], [], q_hp (t, r, m, z, 530, (q_ur ext 529 (1, 0, 136)), rx, L) I E) := by
  intro fu
  induction fu with
  | zero =>
    intro I E v3 v4 r0 hf hK0
    rw [f_X14_copyAll_L88] at hf
    cases hf
  | succ fu ih =>
    intro I E v3 v4 r0 hf hK0
    rw [f_X14_copyAll_L88] at hf
    change q_J g m_X14_copyAll d mc ms h0 [] Q k n (q_kc (t, r, m, z, 530, (q_ur ext 529 (1, 0, 136)), rx, L) I E 88 [some (.ref 512), some (.ref 529), some (.int v2), some (.int v3), some (.int v4), none] [] [] [])
    refine q_blf 4 [] (a := q_kc (t, r, m, z, 530, (q_ur ext 529 (1, 0, 136)), rx, L) I E 105 [some (.ref 512), some (.ref 529), some (.int v2), some (.int v3), some (.int v4), none] [] [] []) (b := q_kc (t, r, m, z, 530, (q_ur ext 529 (1, 0, 136)), rx, L) I E 93 [some (.ref 512), some (.ref 529), some (.int v2), some (.int v3), some (.int v4), none] [] [] []) (P := ((I 492) 16) ≤ v4) ok_X14_copyAll rfl q_cn (fun h5 => ?_) (fun h5 => ?_)
    · have hf := q_ip h5 hf
      refine q_less (ls' := [some (.ref 512), none, some (.int v2), none, none, none]) (q_sb2 (q_sb1 (q_sb2 (q_sb1 (q_sb1 (q_sb1 q_sb0)))))) ?_
      cases hf
      exact q_Jpad [492, 510, 511, 512, 514, 515, 518] [] rfl rfl hK0
    · have hf := q_in h5 hf
      obtain ⟨j6, hj6, hf⟩ := q_bd hf
      refine q_blk 8 [j6] (c' := q_kc (t, r, m, z, 530, (q_ur ext 529 (1, 0, 136)), rx, L) I E 101 [some (.ref 512), some (.ref 529), some (.int v2), some (.int v3), some (.int v4), none] [.ref 529, .int v3, .int ((I 510) j6), .ref 512] [] []) ok_X14_copyAll rfl (q_cc hj6 q_cn) ?_
      obtain ⟨r7, hr7, hf⟩ := q_bd hf
      refine q_kV (M2 := m_X14_takeRopes) (As := [.int ((I 510) j6), .int v3, .ref 529]) (b := 512) (v2 := some (.int r7.1)) ok_X14_copyAll ok_X14_takeRopes cv_X14_takeRopes (ct_X14_takeRopes_512_529_O (d := 5) (Nat.le_refl _) hr7) rfl rfl (Or.inl rfl) rfl rfl rfl rfl (Nat.le_trans (Nat.le_of_ble_eq_true rfl) hd) hk hn (Nat.le_of_ble_eq_true rfl) (fun x hx => absurd hx List.not_mem_nil) (q_nmL0 _) (q_nmS0 _) rfl (pos' := 102) (st' := [.int r7.1]) (lI' := [(492, r7.2.1), (510, r7.2.2.1), (511, r7.2.2.2.1), (512, r7.2.2.2.2.1), (514, r7.2.2.2.2.2.1), (515, r7.2.2.2.2.2.2.1), (518, r7.2.2.2.2.2.2.2)]) (lE' := []) rfl rfl rfl rfl ?_
      refine q_blk 3 [] (c' := q_kc (t, r, m, z, 530, (q_ur ext 529 (1, 0, 136)), rx, L) I E 88 [some (.ref 512), some (.ref 529), some (.int v2), some (.int r7.1), some (.int (v4 + 1)), none] [] [(492, r7.2.1), (510, r7.2.2.1), (511, r7.2.2.2.1), (512, r7.2.2.2.2.1), (514, r7.2.2.2.2.2.1), (515, r7.2.2.2.2.2.2.1), (518, r7.2.2.2.2.2.2.2)] []) ok_X14_copyAll rfl q_cn ?_
      exact ih (I := q_ws I [(492, r7.2.1), (510, r7.2.2.1), (511, r7.2.2.2.1), (512, r7.2.2.2.2.1), (514, r7.2.2.2.2.2.1), (515, r7.2.2.2.2.2.2.1), (518, r7.2.2.2.2.2.2.2)]) (E := q_ws E []) hf (q_Jmrg rfl rfl hK0)
set_option maxHeartbeats 4000000 in
theorem lp_X14_copyAll_L35_512 {g : q_G} {d mc ms : Nat} {h0 : q_H} {Q : (Option Value ⊕ String) → q_H → Prop} {k n : Nat} {t : Nat} {r : Nat} {m : Nat} {z : Nat} {ext : Nat → q_Sh} {rx : Nat → Nat → Option Nat} {L : Nat → Nat → Int64} (hd : 6 ≤ d) (hk : k ≤ mc) (hn : n ≤ ms)  {v2 : Int32} : ∀ (fu : Nat) {I : Nat → Nat → Int32} {E : Nat → Nat → Option Nat} {v3 : Int32} {v4 : Int32} {r0 : Int32 × (Nat → Int32) × (Nat → Int32) × (Nat → Int32) × (Nat → Int32) × (Nat → Int32) × (Nat → Int32) × (Nat → Int32)} (hf : f_X14_copyAll_L35 (I 499) (I 513) (I 516) (I 529) fu (I 492) (I 510) (I 511) (I 512) (I 514) (I 515) (I 518) v3 v4 = some r0) (hK0 : q_J g m_X14_copyAll d mc ms h0 [] Q k n (q_kc (t, r, m, z, 530, (q_ur ext 529 (1, 0, 136)), rx, L) I E 52 [some (.ref 512), some (.ref 529), some (.int v2), some (.int r0.1), none, none] [] [(492, r0.2.1), (510, r0.2.2.1), (511, r0.2.2.2.1), (512, r0.2.2.2.2.1), (514, r0.2.2.2.2.2.1), (515, r0.2.2.2.2.2.2.1), (518, r0.2.2.2.2.2.2.2)] [])), q_J g m_X14_copyAll d mc ms h0 [] Q k n (35, [some (.ref 512), some (.ref 529), some (.int v2), some (.int v3), some (.int v4), none], [], q_hp (t, r, m, z, 530, (q_ur ext 529 (1, 0, 136)), rx, L) I E) := by
  intro fu
  induction fu with
  | zero =>
    intro I E v3 v4 r0 hf hK0
    rw [f_X14_copyAll_L35] at hf
    cases hf
  | succ fu ih =>
    intro I E v3 v4 r0 hf hK0
    rw [f_X14_copyAll_L35] at hf
    change q_J g m_X14_copyAll d mc ms h0 [] Q k n (q_kc (t, r, m, z, 530, (q_ur ext 529 (1, 0, 136)), rx, L) I E 35 [some (.ref 512), some (.ref 529), some (.int v2), some (.int v3), some (.int v4), none] [] [] [])
    refine q_blf 5 [] (a := q_kc (t, r, m, z, 530, (q_ur ext 529 (1, 0, 136)), rx, L) I E 52 [some (.ref 512), some (.ref 529), some (.int v2), some (.int v3), some (.int v4), none] [] [] []) (b := q_kc (t, r, m, z, 530, (q_ur ext 529 (1, 0, 136)), rx, L) I E 41 [some (.ref 512), some (.ref 529), some (.int v2), some (.int v3), some (.int v4), none] [] [] []) (P := ((I 499) 0) ≤ v4) ok_X14_copyAll rfl q_cn (fun h8 => ?_) (fun h8 => ?_)
    · have hf := q_ip h8 hf
      refine q_less (ls' := [some (.ref 512), some (.ref 529), some (.int v2), some (.int v3), none, none]) (q_sb2 (q_sb2 (q_sb2 (q_sb2 (q_sb1 (q_sb1 q_sb0)))))) ?_
      cases hf
      exact q_Jpad [492, 510, 511, 512, 514, 515, 518] [] rfl rfl hK0
    · have hf := q_in h8 hf
      obtain ⟨j9, hj9, hf⟩ := q_bd hf
      refine q_blk 7 [j9] (c' := q_kc (t, r, m, z, 530, (q_ur ext 529 (1, 0, 136)), rx, L) I E 48 [some (.ref 512), some (.ref 529), some (.int v2), some (.int v3), some (.int v4), none] [.ref 529, .int v3, .int ((I 513) j9), .ref 512] [] []) ok_X14_copyAll rfl (q_cc hj9 q_cn) ?_
      obtain ⟨r10, hr10, hf⟩ := q_bd hf
      refine q_kV (M2 := m_X14_takeOver) (As := [.int ((I 513) j9), .int v3, .ref 529]) (b := 512) (v2 := some (.int r10.1)) ok_X14_copyAll ok_X14_takeOver cv_X14_takeOver (ct_X14_takeOver_512_529_O (d := 4) (Nat.le_refl _) hr10) rfl rfl (Or.inl rfl) rfl rfl rfl rfl (Nat.le_trans (Nat.le_of_ble_eq_true rfl) hd) hk hn (Nat.le_of_ble_eq_true rfl) (fun x hx => absurd hx List.not_mem_nil) (q_nmL0 _) (q_nmS0 _) rfl (pos' := 49) (st' := [.int r10.1]) (lI' := [(492, r10.2.1), (510, r10.2.2.1), (511, r10.2.2.2.1), (512, r10.2.2.2.2.1), (514, r10.2.2.2.2.2.1), (515, r10.2.2.2.2.2.2.1), (518, r10.2.2.2.2.2.2.2)]) (lE' := []) rfl rfl rfl rfl ?_
      refine q_blk 3 [] (c' := q_kc (t, r, m, z, 530, (q_ur ext 529 (1, 0, 136)), rx, L) I E 35 [some (.ref 512), some (.ref 529), some (.int v2), some (.int r10.1), some (.int (v4 + 1)), none] [] [(492, r10.2.1), (510, r10.2.2.1), (511, r10.2.2.2.1), (512, r10.2.2.2.2.1), (514, r10.2.2.2.2.2.1), (515, r10.2.2.2.2.2.2.1), (518, r10.2.2.2.2.2.2.2)] []) ok_X14_copyAll rfl q_cn ?_
      exact ih (I := q_ws I [(492, r10.2.1), (510, r10.2.2.1), (511, r10.2.2.2.1), (512, r10.2.2.2.2.1), (514, r10.2.2.2.2.2.1), (515, r10.2.2.2.2.2.2.1), (518, r10.2.2.2.2.2.2.2)]) (E := q_ws E []) hf (q_Jmrg rfl rfl hK0)
set_option maxHeartbeats 4000000 in
theorem lp_X14_copyAll_L62_512 {g : q_G} {d mc ms : Nat} {h0 : q_H} {Q : (Option Value ⊕ String) → q_H → Prop} {k n : Nat} {t : Nat} {r : Nat} {m : Nat} {z : Nat} {ext : Nat → q_Sh} {rx : Nat → Nat → Option Nat} {L : Nat → Nat → Int64} (hd : 6 ≤ d) (hk : k ≤ mc) (hn : n ≤ ms)  {v2 : Int32} {v4 : Int32} : ∀ (fu : Nat) {I : Nat → Nat → Int32} {E : Nat → Nat → Option Nat} {v3 : Int32} {v5 : Int32} {r0 : Int32 × (Nat → Int32) × (Nat → Int32) × (Nat → Int32) × (Nat → Int32) × (Nat → Int32) × (Nat → Int32) × (Nat → Int32)} (hf : f_X14_copyAll_L62 (I 499) (I 516) (I 517) (I 519) (I 529) v4 fu (I 492) (I 510) (I 511) (I 512) (I 514) (I 515) (I 518) v3 v5 = some r0) (hK0 : q_J g m_X14_copyAll d mc ms h0 [] Q k n (q_kc (t, r, m, z, 530, (q_ur ext 529 (1, 0, 136)), rx, L) I E 84 [some (.ref 512), some (.ref 529), some (.int v2), some (.int r0.1), some (.int v4), none] [] [(492, r0.2.1), (510, r0.2.2.1), (511, r0.2.2.2.1), (512, r0.2.2.2.2.1), (514, r0.2.2.2.2.2.1), (515, r0.2.2.2.2.2.2.1), (518, r0.2.2.2.2.2.2.2)] [])), q_J g m_X14_copyAll d mc ms h0 [] Q k n (62, [some (.ref 512), some (.ref 529), some (.int v2), some (.int v3), some (.int v4), some (.int v5)], [], q_hp (t, r, m, z, 530, (q_ur ext 529 (1, 0, 136)), rx, L) I E) := by
  intro fu
  induction fu with
  | zero =>
    intro I E v3 v5 r0 hf hK0
    rw [f_X14_copyAll_L62] at hf
    cases hf
  | succ fu ih =>
    intro I E v3 v5 r0 hf hK0
    rw [f_X14_copyAll_L62] at hf
    change q_J g m_X14_copyAll d mc ms h0 [] Q k n (q_kc (t, r, m, z, 530, (q_ur ext 529 (1, 0, 136)), rx, L) I E 62 [some (.ref 512), some (.ref 529), some (.int v2), some (.int v3), some (.int v4), some (.int v5)] [] [] [])
    refine q_blf 2 [] (a := q_kc (t, r, m, z, 530, (q_ur ext 529 (1, 0, 136)), rx, L) I E 84 [some (.ref 512), some (.ref 529), some (.int v2), some (.int v3), some (.int v4), some (.int v5)] [] [] []) (b := q_kc (t, r, m, z, 530, (q_ur ext 529 (1, 0, 136)), rx, L) I E 65 [some (.ref 512), some (.ref 529), some (.int v2), some (.int v3), some (.int v4), some (.int v5)] [] [] []) (P := (136 : Int32) ≤ v5) ok_X14_copyAll rfl q_cn (fun h11 => ?_) (fun h11 => ?_)
    · have hf := q_ip h11 hf
      refine q_less (ls' := [some (.ref 512), some (.ref 529), some (.int v2), some (.int v3), some (.int v4), none]) (q_sb2 (q_sb2 (q_sb2 (q_sb2 (q_sb2 (q_sb1 q_sb0)))))) ?_
      cases hf
      exact q_Jpad [492, 510, 511, 512, 514, 515, 518] [] rfl rfl hK0
    · have hf := q_in h11 hf
      obtain ⟨j12, hj12, hf⟩ := q_bd hf
      refine q_blf 4 [j12] (a := q_kc (t, r, m, z, 530, (q_ur ext 529 (1, 0, 136)), rx, L) I E 82 [some (.ref 512), some (.ref 529), some (.int v2), some (.int v3), some (.int v4), some (.int v5)] [] [] []) (b := q_kc (t, r, m, z, 530, (q_ur ext 529 (1, 0, 136)), rx, L) I E 70 [some (.ref 512), some (.ref 529), some (.int v2), some (.int v3), some (.int v4), some (.int v5)] [] [] []) (P := ¬ ((I 529) j12) = (2 : Int32)) ok_X14_copyAll rfl (q_cc hj12 q_cn) (fun h13 => ?_) (fun h13 => ?_)
      · have hf := q_ip h13 hf
        refine q_blk 2 [] (c' := q_kc (t, r, m, z, 530, (q_ur ext 529 (1, 0, 136)), rx, L) I E 62 [some (.ref 512), some (.ref 529), some (.int v2), some (.int v3), some (.int v4), some (.int (v5 + 1))] [] [] []) ok_X14_copyAll rfl q_cn ?_
        exact ih (I := q_ws I []) (E := q_ws E []) hf (q_Jmrg rfl rfl hK0)
      · have hf := q_in h13 hf
        obtain ⟨j14, hj14, hf⟩ := q_bd hf
        refine q_blf 5 [j14] (a := q_kc (t, r, m, z, 530, (q_ur ext 529 (1, 0, 136)), rx, L) I E 82 [some (.ref 512), some (.ref 529), some (.int v2), some (.int v3), some (.int v4), some (.int v5)] [] [] []) (b := q_kc (t, r, m, z, 530, (q_ur ext 529 (1, 0, 136)), rx, L) I E 76 [some (.ref 512), some (.ref 529), some (.int v2), some (.int v3), some (.int v4), some (.int v5)] [] [] []) (P := ¬ ((I 515) j14) = v4) ok_X14_copyAll rfl (q_cc hj14 q_cn) (fun h15 => ?_) (fun h15 => ?_)
        · have hf := q_ip h15 hf
          refine q_blk 2 [] (c' := q_kc (t, r, m, z, 530, (q_ur ext 529 (1, 0, 136)), rx, L) I E 62 [some (.ref 512), some (.ref 529), some (.int v2), some (.int v3), some (.int v4), some (.int (v5 + 1))] [] [] []) ok_X14_copyAll rfl q_cn ?_
          exact ih (I := q_ws I []) (E := q_ws E []) hf (q_Jmrg rfl rfl hK0)
        · have hf := q_in h15 hf
          refine q_blk 4 [] (c' := q_kc (t, r, m, z, 530, (q_ur ext 529 (1, 0, 136)), rx, L) I E 80 [some (.ref 512), some (.ref 529), some (.int v2), some (.int v3), some (.int v4), some (.int v5)] [.ref 529, .int v3, .int v5, .ref 512] [] []) ok_X14_copyAll rfl q_cn ?_
          obtain ⟨r16, hr16, hf⟩ := q_bd hf
          refine q_kV (M2 := m_X14_takeRopes) (As := [.int v5, .int v3, .ref 529]) (b := 512) (v2 := some (.int r16.1)) ok_X14_copyAll ok_X14_takeRopes cv_X14_takeRopes (ct_X14_takeRopes_512_529_O (d := 5) (Nat.le_refl _) hr16) rfl rfl (Or.inl rfl) rfl rfl rfl rfl (Nat.le_trans (Nat.le_of_ble_eq_true rfl) hd) hk hn (Nat.le_of_ble_eq_true rfl) (fun x hx => absurd hx List.not_mem_nil) (q_nmL0 _) (q_nmS0 _) rfl (pos' := 81) (st' := [.int r16.1]) (lI' := [(492, r16.2.1), (510, r16.2.2.1), (511, r16.2.2.2.1), (512, r16.2.2.2.2.1), (514, r16.2.2.2.2.2.1), (515, r16.2.2.2.2.2.2.1), (518, r16.2.2.2.2.2.2.2)]) (lE' := []) rfl rfl rfl rfl ?_
          refine q_blk 3 [] (c' := q_kc (t, r, m, z, 530, (q_ur ext 529 (1, 0, 136)), rx, L) I E 62 [some (.ref 512), some (.ref 529), some (.int v2), some (.int r16.1), some (.int v4), some (.int (v5 + 1))] [] [(492, r16.2.1), (510, r16.2.2.1), (511, r16.2.2.2.1), (512, r16.2.2.2.2.1), (514, r16.2.2.2.2.2.1), (515, r16.2.2.2.2.2.2.1), (518, r16.2.2.2.2.2.2.2)] []) ok_X14_copyAll rfl q_cn ?_
          exact ih (I := q_ws I [(492, r16.2.1), (510, r16.2.2.1), (511, r16.2.2.2.1), (512, r16.2.2.2.2.1), (514, r16.2.2.2.2.2.1), (515, r16.2.2.2.2.2.2.1), (518, r16.2.2.2.2.2.2.2)]) (E := q_ws E []) hf (q_Jmrg rfl rfl hK0)
set_option maxHeartbeats 4000000 in
theorem lp_X14_copyAll_L54_512 {g : q_G} {d mc ms : Nat} {h0 : q_H} {Q : (Option Value ⊕ String) → q_H → Prop} {k n : Nat} {t : Nat} {r : Nat} {m : Nat} {z : Nat} {ext : Nat → q_Sh} {rx : Nat → Nat → Option Nat} {L : Nat → Nat → Int64} (hd : 6 ≤ d) (hk : k ≤ mc) (hn : n ≤ ms)  {v2 : Int32} : ∀ (fu : Nat) {I : Nat → Nat → Int32} {E : Nat → Nat → Option Nat} {v3 : Int32} {v4 : Int32} {r0 : Int32 × (Nat → Int32) × (Nat → Int32) × (Nat → Int32) × (Nat → Int32) × (Nat → Int32) × (Nat → Int32) × (Nat → Int32)} (hf : f_X14_copyAll_L54 (I 499) (I 516) (I 517) (I 519) (I 529) fu (I 492) (I 510) (I 511) (I 512) (I 514) (I 515) (I 518) v3 v4 = some r0) (hK0 : q_J g m_X14_copyAll d mc ms h0 [] Q k n (q_kc (t, r, m, z, 530, (q_ur ext 529 (1, 0, 136)), rx, L) I E 86 [some (.ref 512), some (.ref 529), some (.int v2), some (.int r0.1), none, none] [] [(492, r0.2.1), (510, r0.2.2.1), (511, r0.2.2.2.1), (512, r0.2.2.2.2.1), (514, r0.2.2.2.2.2.1), (515, r0.2.2.2.2.2.2.1), (518, r0.2.2.2.2.2.2.2)] [])), q_J g m_X14_copyAll d mc ms h0 [] Q k n (54, [some (.ref 512), some (.ref 529), some (.int v2), some (.int v3), some (.int v4), none], [], q_hp (t, r, m, z, 530, (q_ur ext 529 (1, 0, 136)), rx, L) I E) := by
  intro fu
  induction fu with
  | zero =>
    intro I E v3 v4 r0 hf hK0
    rw [f_X14_copyAll_L54] at hf
    cases hf
  | succ fu ih =>
    intro I E v3 v4 r0 hf hK0
    rw [f_X14_copyAll_L54] at hf
    change q_J g m_X14_copyAll d mc ms h0 [] Q k n (q_kc (t, r, m, z, 530, (q_ur ext 529 (1, 0, 136)), rx, L) I E 54 [some (.ref 512), some (.ref 529), some (.int v2), some (.int v3), some (.int v4), none] [] [] [])
    refine q_blf 5 [] (a := q_kc (t, r, m, z, 530, (q_ur ext 529 (1, 0, 136)), rx, L) I E 86 [some (.ref 512), some (.ref 529), some (.int v2), some (.int v3), some (.int v4), none] [] [] []) (b := q_kc (t, r, m, z, 530, (q_ur ext 529 (1, 0, 136)), rx, L) I E 60 [some (.ref 512), some (.ref 529), some (.int v2), some (.int v3), some (.int v4), none] [] [] []) (P := ((I 499) 2) ≤ v4) ok_X14_copyAll rfl q_cn (fun h17 => ?_) (fun h17 => ?_)
    · have hf := q_ip h17 hf
      refine q_less (ls' := [some (.ref 512), some (.ref 529), some (.int v2), some (.int v3), none, none]) (q_sb2 (q_sb2 (q_sb2 (q_sb2 (q_sb1 (q_sb1 q_sb0)))))) ?_
      cases hf
      exact q_Jpad [492, 510, 511, 512, 514, 515, 518] [] rfl rfl hK0
    · have hf := q_in h17 hf
      refine q_blk 2 [] (c' := q_kc (t, r, m, z, 530, (q_ur ext 529 (1, 0, 136)), rx, L) I E 62 [some (.ref 512), some (.ref 529), some (.int v2), some (.int v3), some (.int v4), some (.int (0 : Int32))] [] [] []) ok_X14_copyAll rfl q_cn ?_
      obtain ⟨r18, hr18, hf⟩ := q_bd hf
      refine lp_X14_copyAll_L62_512 (I := q_ws I []) (E := q_ws E []) hd hk hn 4096 hr18 ?_
      refine q_Jmrg (lI' := [(492, r18.2.1), (510, r18.2.2.1), (511, r18.2.2.2.1), (512, r18.2.2.2.2.1), (514, r18.2.2.2.2.2.1), (515, r18.2.2.2.2.2.2.1), (518, r18.2.2.2.2.2.2.2)]) (lE' := []) rfl rfl ?_
      refine q_blk 2 [] (c' := q_kc (t, r, m, z, 530, (q_ur ext 529 (1, 0, 136)), rx, L) I E 54 [some (.ref 512), some (.ref 529), some (.int v2), some (.int r18.1), some (.int (v4 + 1)), none] [] [(492, r18.2.1), (510, r18.2.2.1), (511, r18.2.2.2.1), (512, r18.2.2.2.2.1), (514, r18.2.2.2.2.2.1), (515, r18.2.2.2.2.2.2.1), (518, r18.2.2.2.2.2.2.2)] []) ok_X14_copyAll rfl q_cn ?_
      exact ih (I := q_ws I [(492, r18.2.1), (510, r18.2.2.1), (511, r18.2.2.2.1), (512, r18.2.2.2.2.1), (514, r18.2.2.2.2.2.1), (515, r18.2.2.2.2.2.2.1), (518, r18.2.2.2.2.2.2.2)]) (E := q_ws E []) hf (q_Jmrg rfl rfl hK0)
set_option maxHeartbeats 4000000 in
theorem ct_X14_copyAll_512 {g : q_G} {t : Nat} {r : Nat} {m : Nat} {ext : Nat → q_Sh} {rx : Nat → Nat → Option Nat} {L : Nat → Nat → Int64} {d : Nat} (hd : 6 ≤ d)  {I : Nat → Nat → Int32} {E : Nat → Nat → Option Nat} {r0 : Int32 × (Nat → Int32) × (Nat → Int32) × (Nat → Int32) × (Nat → Int32) × (Nat → Int32) × (Nat → Int32) × (Nat → Int32)} (hf : f_X14_copyAll (I 492) (I 499) (I 510) (I 511) (I 512) (I 513) (I 514) (I 515) (I 516) (I 517) (I 518) (I 519) = some r0) : q_Ct g m_X14_copyAll d 1 136 [] [.ref 512] (q_hp (t, r, m, 499, 529, ext, rx, L) I E) (fun o h' => o = .inl (some (.int r0.1)) ∧ h' = q_hp (t, r, m, 499, 529, ext, rx, L) (q_ws I [(492, r0.2.1), (510, r0.2.2.1), (511, r0.2.2.2.1), (512, r0.2.2.2.2.1), (514, r0.2.2.2.2.2.1), (515, r0.2.2.2.2.2.2.1), (518, r0.2.2.2.2.2.2.2)]) (q_ws E [])) := by
  rw [f_X14_copyAll] at hf
  refine q_Ct_of ok_X14_copyAll (Nat.le_of_ble_eq_true rfl) ?_ _ rfl rfl
  change q_J g m_X14_copyAll d 1 136 _ [] _ 0 0 (q_kc (t, r, m, 499, 529, ext, rx, L) I E 0 [some (.ref 512), none, none, none, none, none] [] [] [])
  refine q_clo_J (fun hclo0 => ?_)
  refine q_blk 1 [] (c' := q_kc (t, r, m, 499, 529, ext, rx, L) I E 1 [some (.ref 512), none, none, none, none, none] [.int (136 : Int32)] [] []) ok_X14_copyAll rfl q_cn ?_
  refine q_knewI (Lw := 136) (pos' := 2) (lI' := [(529, (fun _ => 0))]) (lE' := [(529, (fun _ => none))]) ok_X14_copyAll rfl rfl rfl (Nat.le_of_ble_eq_true rfl) (Nat.le_of_ble_eq_true rfl) rfl rfl rfl ?_
  refine q_blk 5 [] (c' := q_kc (t, r, m, 499, 530, (q_ur ext 529 (1, 0, 136)), (q_ur rx 529 (fun _ => none)), (q_ur L 529 (fun _ => 0))) I E 7 [some (.ref 512), some (.ref 529), none, none, none, none] [.ref 529, .ref 514, .ref 512] [(529, (fun _ => 0))] [(529, (fun _ => none))]) ok_X14_copyAll rfl q_cn ?_
  obtain ⟨r19, hr19, hf⟩ := q_bd hf
  refine q_kV (M2 := m_X14_copy) (As := [.ref 514, .ref 529]) (b := 512) (v2 := none) ok_X14_copyAll ok_X14_copy cv_X14_copy (ct_X14_copy_512_514_529_O (d := 2) (Nat.le_refl _) hr19) rfl rfl (Or.inl rfl) rfl rfl rfl rfl (Nat.le_trans (Nat.le_of_ble_eq_true rfl) hd) (Nat.le_of_ble_eq_true rfl) (Nat.le_of_ble_eq_true rfl) (Nat.le_of_ble_eq_true rfl) (fun x hx => absurd hx List.not_mem_nil) (q_nmL0 _) (q_nmS0 _) rfl (pos' := 8) (st' := []) (lI' := [(529, r19)]) (lE' := [(529, (fun _ => none))]) rfl rfl rfl rfl ?_
  refine q_blk 1 [] (c' := q_kc (t, r, m, 499, 530, (q_ur ext 529 (1, 0, 136)), (q_ur rx 529 (fun _ => none)), (q_ur L 529 (fun _ => 0))) I E 9 [some (.ref 512), some (.ref 529), none, none, none, none] [.ref 512] [(529, r19)] [(529, (fun _ => none))]) ok_X14_copyAll rfl q_cn ?_
  obtain ⟨r20, hr20, hf⟩ := q_bd hf
  refine q_kV (M2 := m_X14_forget) (As := []) (b := 512) (v2 := none) ok_X14_copyAll ok_X14_forget cv_X14_forget (ct_X14_forget_512 (d := 1) (Nat.le_refl _) hr20) rfl rfl (Or.inl rfl) rfl rfl rfl rfl (Nat.le_trans (Nat.le_of_ble_eq_true rfl) hd) (Nat.le_of_ble_eq_true rfl) (Nat.le_of_ble_eq_true rfl) (Nat.le_of_ble_eq_true rfl) (fun x hx => absurd hx List.not_mem_nil) (q_nmL0 _) (q_nmS0 _) rfl (pos' := 10) (st' := []) (lI' := [(492, r20.1), (511, r20.2), (529, r19)]) (lE' := [(529, (fun _ => none))]) rfl rfl rfl rfl ?_
  refine q_blk 2 [] (c' := q_kc (t, r, m, 499, 530, (q_ur ext 529 (1, 0, 136)), (q_ur rx 529 (fun _ => none)), (q_ur L 529 (fun _ => 0))) I E 12 [some (.ref 512), some (.ref 529), none, none, none, none] [.int (1 : Int32), .ref 512] [(492, r20.1), (511, r20.2), (529, r19)] [(529, (fun _ => none))]) ok_X14_copyAll rfl q_cn ?_
  obtain ⟨r21, hr21, hf⟩ := q_bd hf
  refine q_kV (M2 := m_X14_bales) (As := [.int (1 : Int32)]) (b := 512) (v2 := some (.int r21)) ok_X14_copyAll ok_X14_bales cv_X14_bales (ct_X14_bales_512 (d := 1) (Nat.le_refl _) hr21) rfl rfl (Or.inl rfl) rfl rfl rfl rfl (Nat.le_trans (Nat.le_of_ble_eq_true rfl) hd) (Nat.le_of_ble_eq_true rfl) (Nat.le_of_ble_eq_true rfl) (Nat.le_of_ble_eq_true rfl) (fun x hx => absurd hx List.not_mem_nil) (q_nmL0 _) (q_nmS0 _) rfl (pos' := 13) (st' := [.int r21]) (lI' := [(492, r20.1), (511, r20.2), (529, r19)]) (lE' := [(529, (fun _ => none))]) rfl rfl rfl rfl ?_
  refine q_blk 3 [] (c' := q_kc (t, r, m, 499, 530, (q_ur ext 529 (1, 0, 136)), (q_ur rx 529 (fun _ => none)), (q_ur L 529 (fun _ => 0))) I E 16 [some (.ref 512), some (.ref 529), some (.int r21), some (.int (0 : Int32)), none, none] [] [(492, r20.1), (511, r20.2), (529, r19)] [(529, (fun _ => none))]) ok_X14_copyAll rfl q_cn ?_
  obtain ⟨r22, hr22, hf⟩ := q_bd hf
  refine lp_X14_copyAll_L16_512 (I := q_ws I [(492, r20.1), (511, r20.2), (529, r19)]) (E := q_ws E [(529, (fun _ => none))]) hd (Nat.le_of_ble_eq_true rfl) (Nat.le_of_ble_eq_true rfl) 4096 hr22 ?_
  refine q_Jmrg (lI' := [(492, r20.1), (511, r20.2), (514, r22), (529, r19)]) (lE' := [(529, (fun _ => none))]) rfl rfl ?_
  refine q_blk 4 [] (c' := q_kc (t, r, m, 499, 530, (q_ur ext 529 (1, 0, 136)), (q_ur rx 529 (fun _ => none)), (q_ur L 529 (fun _ => 0))) I E 35 [some (.ref 512), some (.ref 529), some (.int r21), some (.int (0 : Int32)), some (.int (0 : Int32)), none] [] [(492, r20.1), (511, r20.2), (514, r22), (529, r19)] [(529, (fun _ => none))]) ok_X14_copyAll rfl q_cn ?_
  obtain ⟨r23, hr23, hf⟩ := q_bd hf
  refine lp_X14_copyAll_L35_512 (I := q_ws I [(492, r20.1), (511, r20.2), (514, r22), (529, r19)]) (E := q_ws E [(529, (fun _ => none))]) hd (Nat.le_of_ble_eq_true rfl) (Nat.le_of_ble_eq_true rfl) 4096 hr23 ?_
  refine q_Jmrg (lI' := [(492, r23.2.1), (510, r23.2.2.1), (511, r23.2.2.2.1), (512, r23.2.2.2.2.1), (514, r23.2.2.2.2.2.1), (515, r23.2.2.2.2.2.2.1), (518, r23.2.2.2.2.2.2.2), (529, r19)]) (lE' := [(529, (fun _ => none))]) rfl rfl ?_
  refine q_blk 2 [] (c' := q_kc (t, r, m, 499, 530, (q_ur ext 529 (1, 0, 136)), (q_ur rx 529 (fun _ => none)), (q_ur L 529 (fun _ => 0))) I E 54 [some (.ref 512), some (.ref 529), some (.int r21), some (.int r23.1), some (.int (0 : Int32)), none] [] [(492, r23.2.1), (510, r23.2.2.1), (511, r23.2.2.2.1), (512, r23.2.2.2.2.1), (514, r23.2.2.2.2.2.1), (515, r23.2.2.2.2.2.2.1), (518, r23.2.2.2.2.2.2.2), (529, r19)] [(529, (fun _ => none))]) ok_X14_copyAll rfl q_cn ?_
  obtain ⟨r24, hr24, hf⟩ := q_bd hf
  refine lp_X14_copyAll_L54_512 (I := q_ws I [(492, r23.2.1), (510, r23.2.2.1), (511, r23.2.2.2.1), (512, r23.2.2.2.2.1), (514, r23.2.2.2.2.2.1), (515, r23.2.2.2.2.2.2.1), (518, r23.2.2.2.2.2.2.2), (529, r19)]) (E := q_ws E [(529, (fun _ => none))]) hd (Nat.le_of_ble_eq_true rfl) (Nat.le_of_ble_eq_true rfl) 4096 hr24 ?_
  refine q_Jmrg (lI' := [(492, r24.2.1), (510, r24.2.2.1), (511, r24.2.2.2.1), (512, r24.2.2.2.2.1), (514, r24.2.2.2.2.2.1), (515, r24.2.2.2.2.2.2.1), (518, r24.2.2.2.2.2.2.2), (529, r19)]) (lE' := [(529, (fun _ => none))]) rfl rfl ?_
  refine q_blk 2 [] (c' := q_kc (t, r, m, 499, 530, (q_ur ext 529 (1, 0, 136)), (q_ur rx 529 (fun _ => none)), (q_ur L 529 (fun _ => 0))) I E 88 [some (.ref 512), some (.ref 529), some (.int r21), some (.int r24.1), some (.int (0 : Int32)), none] [] [(492, r24.2.1), (510, r24.2.2.1), (511, r24.2.2.2.1), (512, r24.2.2.2.2.1), (514, r24.2.2.2.2.2.1), (515, r24.2.2.2.2.2.2.1), (518, r24.2.2.2.2.2.2.2), (529, r19)] [(529, (fun _ => none))]) ok_X14_copyAll rfl q_cn ?_
  obtain ⟨r25, hr25, hf⟩ := q_bd hf
  refine lp_X14_copyAll_L88_512 (I := q_ws I [(492, r24.2.1), (510, r24.2.2.1), (511, r24.2.2.2.1), (512, r24.2.2.2.2.1), (514, r24.2.2.2.2.2.1), (515, r24.2.2.2.2.2.2.1), (518, r24.2.2.2.2.2.2.2), (529, r19)]) (E := q_ws E [(529, (fun _ => none))]) hd (Nat.le_of_ble_eq_true rfl) (Nat.le_of_ble_eq_true rfl) 4096 hr25 ?_
  refine q_Jmrg (lI' := [(492, r25.1), (510, r25.2.1), (511, r25.2.2.1), (512, r25.2.2.2.1), (514, r25.2.2.2.2.1), (515, r25.2.2.2.2.2.1), (518, r25.2.2.2.2.2.2), (529, r19)]) (lE' := [(529, (fun _ => none))]) rfl rfl ?_
  refine q_blk 27 [] (c' := q_kc (t, r, m, 499, 530, (q_ur ext 529 (1, 0, 136)), (q_ur rx 529 (fun _ => none)), (q_ur L 529 (fun _ => 0))) I E 132 [some (.ref 512), none, some (.int r21), none, none, none] [.int (r21 - (r25.1 16))] [(492, r25.1), (510, r25.2.1), (511, r25.2.2.1), (512, (q_up (q_up (q_up r25.2.2.2.1 2 ((1 : Int32) - (r25.2.2.2.1 2))) 3 (((q_up r25.2.2.2.1 2 ((1 : Int32) - (r25.2.2.2.1 2))) 3) + (1 : Int32))) 5 (((q_up (q_up r25.2.2.2.1 2 ((1 : Int32) - (r25.2.2.2.1 2))) 3 (((q_up r25.2.2.2.1 2 ((1 : Int32) - (r25.2.2.2.1 2))) 3) + (1 : Int32))) 5) + (r21 - (r25.1 16))))), (514, r25.2.2.2.2.1), (515, r25.2.2.2.2.2.1), (518, r25.2.2.2.2.2.2), (529, r19)] [(529, (fun _ => none))]) ok_X14_copyAll rfl q_cn ?_
  cases hf
  refine q_less (ls' := [none, none, none, none, none, none]) (q_sb1 (q_sb1 (q_sb1 (q_sb1 (q_sb1 (q_sb1 q_sb0)))))) ?_
  refine q_kdrop (lI0 := [(492, r25.1), (510, r25.2.1), (511, r25.2.2.1), (512, (q_up (q_up (q_up r25.2.2.2.1 2 ((1 : Int32) - (r25.2.2.2.1 2))) 3 (((q_up r25.2.2.2.1 2 ((1 : Int32) - (r25.2.2.2.1 2))) 3) + (1 : Int32))) 5 (((q_up (q_up r25.2.2.2.1 2 ((1 : Int32) - (r25.2.2.2.1 2))) 3 (((q_up r25.2.2.2.1 2 ((1 : Int32) - (r25.2.2.2.1 2))) 3) + (1 : Int32))) 5) + (r21 - (r25.1 16))))), (514, r25.2.2.2.2.1), (515, r25.2.2.2.2.2.1), (518, r25.2.2.2.2.2.2)]) (lE0 := []) hclo0 rfl rfl (q_nrS_of rfl) (q_nrL_of rfl) (Nat.le_refl _) rfl ?_
  exact q_kri ok_X14_copyAll rfl rfl rfl (Nat.le_of_ble_eq_true rfl) (Nat.le_of_ble_eq_true rfl) ⟨rfl, q_hpe (q_fin [492, 510, 511, 512, 514, 515, 518] rfl) (q_fin [] rfl)⟩
set_option maxHeartbeats 4000000 in
theorem lp_X14_make_L29_512 {g : q_G} {d mc ms : Nat} {h0 : q_H} {Q : (Option Value ⊕ String) → q_H → Prop} {k n : Nat} {t : Nat} {r : Nat} {m : Nat} {z : Nat} {N : Nat} {ext : Nat → q_Sh} {rx : Nat → Nat → Option Nat} {L : Nat → Nat → Int64} (hd : 7 ≤ d) (hk : k ≤ mc) (hn : n ≤ ms)  {v1 : Int32} {v2 : Int32} {v3 : Int32} {v4 : Int32} : ∀ (fu : Nat) {I : Nat → Nat → Int32} {E : Nat → Nat → Option Nat} {v5 : Int32} {r0 : Int32} (hf : f_X14_make_L29 (I 514) fu v5 = some r0) (hK0 : q_J g m_X14_make d mc ms h0 [] Q k n (q_kc (t, r, m, z, N, ext, rx, L) I E 36 [some (.ref 512), some (.int v1), some (.int v2), some (.int v3), some (.int v4), some (.int r0), none] [] [] [])), q_J g m_X14_make d mc ms h0 [] Q k n (29, [some (.ref 512), some (.int v1), some (.int v2), some (.int v3), some (.int v4), some (.int v5), none], [], q_hp (t, r, m, z, N, ext, rx, L) I E) := by
  intro fu
  induction fu with
  | zero =>
    intro I E v5 r0 hf hK0
    rw [f_X14_make_L29] at hf
    cases hf
  | succ fu ih =>
    intro I E v5 r0 hf hK0
    rw [f_X14_make_L29] at hf
    change q_J g m_X14_make d mc ms h0 [] Q k n (q_kc (t, r, m, z, N, ext, rx, L) I E 29 [some (.ref 512), some (.int v1), some (.int v2), some (.int v3), some (.int v4), some (.int v5), none] [] [] [])
    obtain ⟨j1, hj1, hf⟩ := q_bd hf
    refine q_blf 4 [j1] (a := q_kc (t, r, m, z, N, ext, rx, L) I E 36 [some (.ref 512), some (.int v1), some (.int v2), some (.int v3), some (.int v4), some (.int v5), none] [] [] []) (b := q_kc (t, r, m, z, N, ext, rx, L) I E 34 [some (.ref 512), some (.int v1), some (.int v2), some (.int v3), some (.int v4), some (.int v5), none] [] [] []) (P := ((I 514) j1) = 0) ok_X14_make rfl (q_cc hj1 q_cn) (fun h2 => ?_) (fun h2 => ?_)
    · have hf := q_ip h2 hf
      cases hf
      exact q_Jpad [] [] rfl rfl hK0
    · have hf := q_in h2 hf
      refine q_blk 2 [] (c' := q_kc (t, r, m, z, N, ext, rx, L) I E 29 [some (.ref 512), some (.int v1), some (.int v2), some (.int v3), some (.int v4), some (.int (v5 + 1)), none] [] [] []) ok_X14_make rfl q_cn ?_
      exact ih (I := q_ws I []) (E := q_ws E []) hf (q_Jmrg rfl rfl hK0)
set_option maxHeartbeats 4000000 in
theorem lp_X14_make_L63_512 {g : q_G} {d mc ms : Nat} {h0 : q_H} {Q : (Option Value ⊕ String) → q_H → Prop} {k n : Nat} {t : Nat} {r : Nat} {m : Nat} {z : Nat} {N : Nat} {ext : Nat → q_Sh} {rx : Nat → Nat → Option Nat} {L : Nat → Nat → Int64} (hd : 7 ≤ d) (hk : k ≤ mc) (hn : n ≤ ms)  {v1 : Int32} {v5 : Int32} : ∀ (fu : Nat) {I : Nat → Nat → Int32} {E : Nat → Nat → Option Nat} {v6 : Int32} {r0 : (Nat → Int32)} (hf : f_X14_make_L63 v5 fu (I 519) v6 = some r0) (hK0 : q_J g m_X14_make d mc ms h0 [] Q k n (q_kc (t, r, m, z, N, ext, rx, L) I E 77 [some (.ref 512), some (.int v1), none, none, none, some (.int v5), none] [] [(519, r0)] [])), q_J g m_X14_make d mc ms h0 [] Q k n (63, [some (.ref 512), some (.int v1), none, none, none, some (.int v5), some (.int v6)], [], q_hp (t, r, m, z, N, ext, rx, L) I E) := by
  intro fu
  induction fu with
  | zero =>
    intro I E v6 r0 hf hK0
    rw [f_X14_make_L63] at hf
    cases hf
  | succ fu ih =>
    intro I E v6 r0 hf hK0
    rw [f_X14_make_L63] at hf
    change q_J g m_X14_make d mc ms h0 [] Q k n (q_kc (t, r, m, z, N, ext, rx, L) I E 63 [some (.ref 512), some (.int v1), none, none, none, some (.int v5), some (.int v6)] [] [] [])
    refine q_blf 2 [] (a := q_kc (t, r, m, z, N, ext, rx, L) I E 77 [some (.ref 512), some (.int v1), none, none, none, some (.int v5), some (.int v6)] [] [] []) (b := q_kc (t, r, m, z, N, ext, rx, L) I E 66 [some (.ref 512), some (.int v1), none, none, none, some (.int v5), some (.int v6)] [] [] []) (P := (3 : Int32) ≤ v6) ok_X14_make rfl q_cn (fun h3 => ?_) (fun h3 => ?_)
    · have hf := q_ip h3 hf
      refine q_less (ls' := [some (.ref 512), some (.int v1), none, none, none, some (.int v5), none]) (q_sb2 (q_sb2 (q_sb1 (q_sb1 (q_sb1 (q_sb2 (q_sb1 q_sb0))))))) ?_
      cases hf
      exact q_Jpad [519] [] rfl rfl hK0
    · have hf := q_in h3 hf
      obtain ⟨j4, hj4, hf⟩ := q_bd hf
      refine q_blk 11 [j4] (c' := q_kc (t, r, m, z, N, ext, rx, L) I E 63 [some (.ref 512), some (.int v1), none, none, none, some (.int v5), some (.int (v6 + 1))] [] [(519, (q_up (I 519) j4 (-1 : Int32)))] []) ok_X14_make rfl (q_cc hj4 q_cn) ?_
      exact ih (I := q_ws I [(519, (q_up (I 519) j4 (-1 : Int32)))]) (E := q_ws E []) hf (q_Jmrg rfl rfl hK0)
set_option maxHeartbeats 4000000 in
theorem ct_X14_make_512 {g : q_G} {t : Nat} {r : Nat} {m : Nat} {ext : Nat → q_Sh} {rx : Nat → Nat → Option Nat} {L : Nat → Nat → Int64} {d : Nat} (hd : 7 ≤ d)  {I : Nat → Nat → Int32} {E : Nat → Nat → Option Nat} {x1 : Int32} {x2 : Int32} {x3 : Int32} {r0 : Bool × (Nat → Int32) × (Nat → Int32) × (Nat → Int32) × (Nat → Int32) × (Nat → Int32) × (Nat → Int32) × (Nat → Int32) × (Nat → Int32) × (Nat → Int32) × (Nat → Int32) × (Nat → Int32)} (hf : f_X14_make (I 492) (I 499) (I 510) (I 511) (I 512) (I 513) (I 514) (I 515) (I 516) (I 517) (I 518) (I 519) x1 x2 x3 = some r0) : q_Ct g m_X14_make d 1 136 [] [.ref 512, .int x1, .int x2, .int x3] (q_hp (t, r, m, 499, 529, ext, rx, L) I E) (fun o h' => o = .inl (some (.int (q_bz r0.1))) ∧ h' = q_hp (t, r, m, 499, 529, ext, rx, L) (q_ws I [(492, r0.2.1), (510, r0.2.2.1), (511, r0.2.2.2.1), (512, r0.2.2.2.2.1), (513, r0.2.2.2.2.2.1), (514, r0.2.2.2.2.2.2.1), (515, r0.2.2.2.2.2.2.2.1), (516, r0.2.2.2.2.2.2.2.2.1), (517, r0.2.2.2.2.2.2.2.2.2.1), (518, r0.2.2.2.2.2.2.2.2.2.2.1), (519, r0.2.2.2.2.2.2.2.2.2.2.2)]) (q_ws E [])) := by
  rw [f_X14_make] at hf
  refine q_Ct_of ok_X14_make (Nat.le_of_ble_eq_true rfl) ?_ _ rfl rfl
  change q_J g m_X14_make d 1 136 _ [] _ 0 0 (q_kc (t, r, m, 499, 529, ext, rx, L) I E 0 [some (.ref 512), some (.int x1), some (.int x2), some (.int x3), none, none, none] [] [] [])
  refine q_blk 6 [] (c' := q_kc (t, r, m, 499, 529, ext, rx, L) I E 6 [some (.ref 512), some (.int x1), some (.int x2), some (.int x3), none, none, none] [.int (1 : Int32), .ref 512, .int ((I 499) 1)] [] []) ok_X14_make rfl q_cn ?_
  obtain ⟨r5, hr5, hf⟩ := q_bd hf
  refine q_kV (M2 := m_X14_used) (As := [.int (1 : Int32)]) (b := 512) (v2 := some (.int r5)) ok_X14_make ok_X14_used cv_X14_used (ct_X14_used_512 (d := 1) (Nat.le_refl _) hr5) rfl rfl (Or.inl rfl) rfl rfl rfl rfl (Nat.le_trans (Nat.le_of_ble_eq_true rfl) hd) (Nat.le_of_ble_eq_true rfl) (Nat.le_of_ble_eq_true rfl) (Nat.le_of_ble_eq_true rfl) (fun x hx => absurd hx List.not_mem_nil) (q_nmL0 _) (q_nmS0 _) rfl (pos' := 7) (st' := [.int r5, .int ((I 499) 1)]) (lI' := []) (lE' := []) rfl rfl rfl rfl ?_
  refine q_blf 2 [] (a := q_kc (t, r, m, 499, 529, ext, rx, L) I E 13 [some (.ref 512), some (.int x1), some (.int x2), some (.int x3), none, none, none] [] [] []) (b := q_kc (t, r, m, 499, 529, ext, rx, L) I E 10 [some (.ref 512), some (.int x1), some (.int x2), some (.int x3), none, none, none] [] [] []) (P := x2 ≤ (((I 499) 1) - r5)) ok_X14_make rfl q_cn (fun h6 => ?_) (fun h6 => ?_)
  · have hf := q_ip h6 hf
    refine q_blk 2 [] (c' := q_kc (t, r, m, 499, 529, ext, rx, L) I E 15 [some (.ref 512), some (.int x1), some (.int x2), some (.int x3), none, none, none] [.int (1 : Int32), .ref 512] [] []) ok_X14_make rfl q_cn ?_
    obtain ⟨r7, hr7, hf⟩ := q_bd hf
    refine q_kV (M2 := m_X14_used) (As := [.int (1 : Int32)]) (b := 512) (v2 := some (.int r7)) ok_X14_make ok_X14_used cv_X14_used (ct_X14_used_512 (d := 1) (Nat.le_refl _) hr7) rfl rfl (Or.inl rfl) rfl rfl rfl rfl (Nat.le_trans (Nat.le_of_ble_eq_true rfl) hd) (Nat.le_of_ble_eq_true rfl) (Nat.le_of_ble_eq_true rfl) (Nat.le_of_ble_eq_true rfl) (fun x hx => absurd hx List.not_mem_nil) (q_nmL0 _) (q_nmS0 _) rfl (pos' := 16) (st' := [.int r7]) (lI' := []) (lE' := []) rfl rfl rfl rfl ?_
    refine q_blf 8 [] (a := q_kc (t, r, m, 499, 529, ext, rx, L) I E 27 [some (.ref 512), some (.int x1), some (.int x2), some (.int x3), some (.int r7), none, none] [] [] []) (b := q_kc (t, r, m, 499, 529, ext, rx, L) I E 25 [some (.ref 512), some (.int x1), some (.int x2), some (.int x3), some (.int r7), none, none] [] [] []) (P := x2 ≤ (((I 499) 1) - r7)) ok_X14_make rfl q_cn (fun h8 => ?_) (fun h8 => ?_)
    · have hf := q_ip h8 hf
      refine q_blk 2 [] (c' := q_kc (t, r, m, 499, 529, ext, rx, L) I E 29 [some (.ref 512), some (.int x1), some (.int x2), some (.int x3), some (.int r7), some (.int (0 : Int32)), none] [] [] []) ok_X14_make rfl q_cn ?_
      obtain ⟨r9, hr9, hf⟩ := q_bd hf
      refine lp_X14_make_L29_512 (I := q_ws I []) (E := q_ws E []) hd (Nat.le_of_ble_eq_true rfl) (Nat.le_of_ble_eq_true rfl) 4096 hr9 ?_
      refine q_Jmrg (lI' := []) (lE' := []) rfl rfl ?_
      obtain ⟨j10, hj10, hf⟩ := q_bd hf
      obtain ⟨j11, hj11, hf⟩ := q_bd hf
      obtain ⟨j12, hj12, hf⟩ := q_bd hf
      obtain ⟨j13, hj13, hf⟩ := q_bd hf
      obtain ⟨j14, hj14, hf⟩ := q_bd hf
      refine q_blk 27 [j10, j11, j12, j13, j14] (c' := q_kc (t, r, m, 499, 529, ext, rx, L) I E 63 [some (.ref 512), some (.int x1), some (.int x2), some (.int x3), some (.int r7), some (.int r9), some (.int (0 : Int32))] [] [(514, (q_up (I 514) j10 (1 : Int32))), (515, (q_up (I 515) j11 r7)), (516, (q_up (I 516) j12 x2)), (517, (q_up (I 517) j13 x3)), (518, (q_up (I 518) j14 (0 : Int32)))] []) ok_X14_make rfl (q_cc hj14 (q_cc hj13 (q_cc hj12 (q_cc hj11 (q_cc hj10 q_cn))))) ?_
      refine q_less (ls' := [some (.ref 512), some (.int x1), none, none, none, some (.int r9), some (.int (0 : Int32))]) (q_sb2 (q_sb2 (q_sb1 (q_sb1 (q_sb1 (q_sb2 (q_sb2 q_sb0))))))) ?_
      obtain ⟨r15, hr15, hf⟩ := q_bd hf
      refine lp_X14_make_L63_512 (I := q_ws I [(514, (q_up (I 514) j10 (1 : Int32))), (515, (q_up (I 515) j11 r7)), (516, (q_up (I 516) j12 x2)), (517, (q_up (I 517) j13 x3)), (518, (q_up (I 518) j14 (0 : Int32)))]) (E := q_ws E []) hd (Nat.le_of_ble_eq_true rfl) (Nat.le_of_ble_eq_true rfl) 4096 hr15 ?_
      refine q_Jmrg (lI' := [(514, (q_up (I 514) j10 (1 : Int32))), (515, (q_up (I 515) j11 r7)), (516, (q_up (I 516) j12 x2)), (517, (q_up (I 517) j13 x3)), (518, (q_up (I 518) j14 (0 : Int32))), (519, r15)]) (lE' := []) rfl rfl ?_
      obtain ⟨j16, hj16, hf⟩ := q_bd hf
      refine q_blk 6 [j16] (c' := q_kc (t, r, m, 499, 529, ext, rx, L) I E 83 [some (.ref 512), some (.int x1), none, none, none, some (.int r9), none] [.int (1 : Int32)] [(513, (q_up (I 513) j16 r9)), (514, (q_up (I 514) j10 (1 : Int32))), (515, (q_up (I 515) j11 r7)), (516, (q_up (I 516) j12 x2)), (517, (q_up (I 517) j13 x3)), (518, (q_up (I 518) j14 (0 : Int32))), (519, r15)] []) ok_X14_make rfl (q_cc hj16 q_cn) ?_
      cases hf
      exact q_kri ok_X14_make rfl rfl rfl (Nat.le_of_ble_eq_true rfl) (Nat.le_of_ble_eq_true rfl) ⟨rfl, q_hpe (q_fin [492, 510, 511, 512, 513, 514, 515, 516, 517, 518, 519] rfl) (q_fin [] rfl)⟩
    · have hf := q_in h8 hf
      refine q_blk 1 [] (c' := q_kc (t, r, m, 499, 529, ext, rx, L) I E 26 [some (.ref 512), some (.int x1), some (.int x2), some (.int x3), some (.int r7), none, none] [.int (0 : Int32)] [] []) ok_X14_make rfl q_cn ?_
      cases hf
      exact q_kri ok_X14_make rfl rfl rfl (Nat.le_of_ble_eq_true rfl) (Nat.le_of_ble_eq_true rfl) ⟨rfl, q_hpe (q_fin [492, 510, 511, 512, 513, 514, 515, 516, 517, 518, 519] rfl) (q_fin [] rfl)⟩
  · have hf := q_in h6 hf
    refine q_blk 1 [] (c' := q_kc (t, r, m, 499, 529, ext, rx, L) I E 11 [some (.ref 512), some (.int x1), some (.int x2), some (.int x3), none, none, none] [.ref 512] [] []) ok_X14_make rfl q_cn ?_
    obtain ⟨r17, hr17, hf⟩ := q_bd hf
    refine q_kV (M2 := m_X14_copyAll) (As := []) (b := 512) (v2 := some (.int r17.1)) ok_X14_make ok_X14_copyAll cv_X14_copyAll (ct_X14_copyAll_512 (d := 6) (Nat.le_refl _) hr17) rfl rfl (Or.inl rfl) rfl rfl rfl rfl (Nat.le_trans (Nat.le_of_ble_eq_true rfl) hd) (Nat.le_of_ble_eq_true rfl) (Nat.le_of_ble_eq_true rfl) (Nat.le_of_ble_eq_true rfl) (fun x hx => absurd hx List.not_mem_nil) (q_nmL0 _) (q_nmS0 _) rfl (pos' := 12) (st' := [.int r17.1]) (lI' := [(492, r17.2.1), (510, r17.2.2.1), (511, r17.2.2.2.1), (512, r17.2.2.2.2.1), (514, r17.2.2.2.2.2.1), (515, r17.2.2.2.2.2.2.1), (518, r17.2.2.2.2.2.2.2)]) (lE' := []) rfl rfl rfl rfl ?_
    refine q_blk 3 [] (c' := q_kc (t, r, m, 499, 529, ext, rx, L) I E 15 [some (.ref 512), some (.int x1), some (.int x2), some (.int x3), none, none, none] [.int (1 : Int32), .ref 512] [(492, r17.2.1), (510, r17.2.2.1), (511, r17.2.2.2.1), (512, r17.2.2.2.2.1), (514, r17.2.2.2.2.2.1), (515, r17.2.2.2.2.2.2.1), (518, r17.2.2.2.2.2.2.2)] []) ok_X14_make rfl q_cn ?_
    obtain ⟨r18, hr18, hf⟩ := q_bd hf
    refine q_kV (M2 := m_X14_used) (As := [.int (1 : Int32)]) (b := 512) (v2 := some (.int r18)) ok_X14_make ok_X14_used cv_X14_used (ct_X14_used_512 (d := 1) (Nat.le_refl _) hr18) rfl rfl (Or.inl rfl) rfl rfl rfl rfl (Nat.le_trans (Nat.le_of_ble_eq_true rfl) hd) (Nat.le_of_ble_eq_true rfl) (Nat.le_of_ble_eq_true rfl) (Nat.le_of_ble_eq_true rfl) (fun x hx => absurd hx List.not_mem_nil) (q_nmL0 _) (q_nmS0 _) rfl (pos' := 16) (st' := [.int r18]) (lI' := [(492, r17.2.1), (510, r17.2.2.1), (511, r17.2.2.2.1), (512, r17.2.2.2.2.1), (514, r17.2.2.2.2.2.1), (515, r17.2.2.2.2.2.2.1), (518, r17.2.2.2.2.2.2.2)]) (lE' := []) rfl rfl rfl rfl ?_
    refine q_blf 8 [] (a := q_kc (t, r, m, 499, 529, ext, rx, L) I E 27 [some (.ref 512), some (.int x1), some (.int x2), some (.int x3), some (.int r18), none, none] [] [(492, r17.2.1), (510, r17.2.2.1), (511, r17.2.2.2.1), (512, r17.2.2.2.2.1), (514, r17.2.2.2.2.2.1), (515, r17.2.2.2.2.2.2.1), (518, r17.2.2.2.2.2.2.2)] []) (b := q_kc (t, r, m, 499, 529, ext, rx, L) I E 25 [some (.ref 512), some (.int x1), some (.int x2), some (.int x3), some (.int r18), none, none] [] [(492, r17.2.1), (510, r17.2.2.1), (511, r17.2.2.2.1), (512, r17.2.2.2.2.1), (514, r17.2.2.2.2.2.1), (515, r17.2.2.2.2.2.2.1), (518, r17.2.2.2.2.2.2.2)] []) (P := x2 ≤ (((I 499) 1) - r18)) ok_X14_make rfl q_cn (fun h19 => ?_) (fun h19 => ?_)
    · have hf := q_ip h19 hf
      refine q_blk 2 [] (c' := q_kc (t, r, m, 499, 529, ext, rx, L) I E 29 [some (.ref 512), some (.int x1), some (.int x2), some (.int x3), some (.int r18), some (.int (0 : Int32)), none] [] [(492, r17.2.1), (510, r17.2.2.1), (511, r17.2.2.2.1), (512, r17.2.2.2.2.1), (514, r17.2.2.2.2.2.1), (515, r17.2.2.2.2.2.2.1), (518, r17.2.2.2.2.2.2.2)] []) ok_X14_make rfl q_cn ?_
      obtain ⟨r20, hr20, hf⟩ := q_bd hf
      refine lp_X14_make_L29_512 (I := q_ws I [(492, r17.2.1), (510, r17.2.2.1), (511, r17.2.2.2.1), (512, r17.2.2.2.2.1), (514, r17.2.2.2.2.2.1), (515, r17.2.2.2.2.2.2.1), (518, r17.2.2.2.2.2.2.2)]) (E := q_ws E []) hd (Nat.le_of_ble_eq_true rfl) (Nat.le_of_ble_eq_true rfl) 4096 hr20 ?_
      refine q_Jmrg (lI' := [(492, r17.2.1), (510, r17.2.2.1), (511, r17.2.2.2.1), (512, r17.2.2.2.2.1), (514, r17.2.2.2.2.2.1), (515, r17.2.2.2.2.2.2.1), (518, r17.2.2.2.2.2.2.2)]) (lE' := []) rfl rfl ?_
      obtain ⟨j21, hj21, hf⟩ := q_bd hf
      obtain ⟨j22, hj22, hf⟩ := q_bd hf
      obtain ⟨j23, hj23, hf⟩ := q_bd hf
      obtain ⟨j24, hj24, hf⟩ := q_bd hf
      obtain ⟨j25, hj25, hf⟩ := q_bd hf
      refine q_blk 27 [j21, j22, j23, j24, j25] (c' := q_kc (t, r, m, 499, 529, ext, rx, L) I E 63 [some (.ref 512), some (.int x1), some (.int x2), some (.int x3), some (.int r18), some (.int r20), some (.int (0 : Int32))] [] [(492, r17.2.1), (510, r17.2.2.1), (511, r17.2.2.2.1), (512, r17.2.2.2.2.1), (514, (q_up r17.2.2.2.2.2.1 j21 (1 : Int32))), (515, (q_up r17.2.2.2.2.2.2.1 j22 r18)), (516, (q_up (I 516) j23 x2)), (517, (q_up (I 517) j24 x3)), (518, (q_up r17.2.2.2.2.2.2.2 j25 (0 : Int32)))] []) ok_X14_make rfl (q_cc hj25 (q_cc hj24 (q_cc hj23 (q_cc hj22 (q_cc hj21 q_cn))))) ?_
      refine q_less (ls' := [some (.ref 512), some (.int x1), none, none, none, some (.int r20), some (.int (0 : Int32))]) (q_sb2 (q_sb2 (q_sb1 (q_sb1 (q_sb1 (q_sb2 (q_sb2 q_sb0))))))) ?_
      obtain ⟨r26, hr26, hf⟩ := q_bd hf
      refine lp_X14_make_L63_512 (I := q_ws I [(492, r17.2.1), (510, r17.2.2.1), (511, r17.2.2.2.1), (512, r17.2.2.2.2.1), (514, (q_up r17.2.2.2.2.2.1 j21 (1 : Int32))), (515, (q_up r17.2.2.2.2.2.2.1 j22 r18)), (516, (q_up (I 516) j23 x2)), (517, (q_up (I 517) j24 x3)), (518, (q_up r17.2.2.2.2.2.2.2 j25 (0 : Int32)))]) (E := q_ws E []) hd (Nat.le_of_ble_eq_true rfl) (Nat.le_of_ble_eq_true rfl) 4096 hr26 ?_
      refine q_Jmrg (lI' := [(492, r17.2.1), (510, r17.2.2.1), (511, r17.2.2.2.1), (512, r17.2.2.2.2.1), (514, (q_up r17.2.2.2.2.2.1 j21 (1 : Int32))), (515, (q_up r17.2.2.2.2.2.2.1 j22 r18)), (516, (q_up (I 516) j23 x2)), (517, (q_up (I 517) j24 x3)), (518, (q_up r17.2.2.2.2.2.2.2 j25 (0 : Int32))), (519, r26)]) (lE' := []) rfl rfl ?_
      obtain ⟨j27, hj27, hf⟩ := q_bd hf
      refine q_blk 6 [j27] (c' := q_kc (t, r, m, 499, 529, ext, rx, L) I E 83 [some (.ref 512), some (.int x1), none, none, none, some (.int r20), none] [.int (1 : Int32)] [(492, r17.2.1), (510, r17.2.2.1), (511, r17.2.2.2.1), (512, r17.2.2.2.2.1), (513, (q_up (I 513) j27 r20)), (514, (q_up r17.2.2.2.2.2.1 j21 (1 : Int32))), (515, (q_up r17.2.2.2.2.2.2.1 j22 r18)), (516, (q_up (I 516) j23 x2)), (517, (q_up (I 517) j24 x3)), (518, (q_up r17.2.2.2.2.2.2.2 j25 (0 : Int32))), (519, r26)] []) ok_X14_make rfl (q_cc hj27 q_cn) ?_
      cases hf
      exact q_kri ok_X14_make rfl rfl rfl (Nat.le_of_ble_eq_true rfl) (Nat.le_of_ble_eq_true rfl) ⟨rfl, q_hpe (q_fin [492, 510, 511, 512, 513, 514, 515, 516, 517, 518, 519] rfl) (q_fin [] rfl)⟩
    · have hf := q_in h19 hf
      refine q_blk 1 [] (c' := q_kc (t, r, m, 499, 529, ext, rx, L) I E 26 [some (.ref 512), some (.int x1), some (.int x2), some (.int x3), some (.int r18), none, none] [.int (0 : Int32)] [(492, r17.2.1), (510, r17.2.2.1), (511, r17.2.2.2.1), (512, r17.2.2.2.2.1), (514, r17.2.2.2.2.2.1), (515, r17.2.2.2.2.2.2.1), (518, r17.2.2.2.2.2.2.2)] []) ok_X14_make rfl q_cn ?_
      cases hf
      exact q_kri ok_X14_make rfl rfl rfl (Nat.le_of_ble_eq_true rfl) (Nat.le_of_ble_eq_true rfl) ⟨rfl, q_hpe (q_fin [492, 510, 511, 512, 513, 514, 515, 516, 517, 518, 519] rfl) (q_fin [] rfl)⟩
set_option maxHeartbeats 4000000 in
theorem ct_X15_make_492 {g : q_G} {t : Nat} {r : Nat} {m : Nat} {ext : Nat → q_Sh} {rx : Nat → Nat → Option Nat} {L : Nat → Nat → Int64} {d : Nat} (hd : 8 ≤ d)  {I : Nat → Nat → Int32} {E : Nat → Nat → Option Nat} {x1 : Int32} {x2 : Int32} {x3 : Int32} {r0 : Int32 × (Nat → Int32) × (Nat → Int32) × (Nat → Int32) × (Nat → Int32) × (Nat → Int32) × (Nat → Int32) × (Nat → Int32) × (Nat → Int32) × (Nat → Int32) × (Nat → Int32) × (Nat → Int32)} (hf : f_X15_make (I 492) (I 499) (I 510) (I 511) (I 512) (I 513) (I 514) (I 515) (I 516) (I 517) (I 518) (I 519) x1 x2 x3 = some r0) : q_Ct g m_X15_make d 1 136 [] [.ref 492, .int x1, .int x2, .int x3] (q_hp (t, r, m, 499, 529, ext, rx, L) I E) (fun o h' => o = .inl (some (.int r0.1)) ∧ h' = q_hp (t, r, m, 499, 529, ext, rx, L) (q_ws I [(492, r0.2.1), (510, r0.2.2.1), (511, r0.2.2.2.1), (512, r0.2.2.2.2.1), (513, r0.2.2.2.2.2.1), (514, r0.2.2.2.2.2.2.1), (515, r0.2.2.2.2.2.2.2.1), (516, r0.2.2.2.2.2.2.2.2.1), (517, r0.2.2.2.2.2.2.2.2.2.1), (518, r0.2.2.2.2.2.2.2.2.2.2.1), (519, r0.2.2.2.2.2.2.2.2.2.2.2)]) (q_ws E [])) := by
  rw [f_X15_make] at hf
  refine q_Ct_of ok_X15_make (Nat.le_of_ble_eq_true rfl) ?_ _ rfl rfl
  change q_J g m_X15_make d 1 136 _ [] _ 0 0 (q_kc (t, r, m, 499, 529, ext, rx, L) I E 0 [some (.ref 492), some (.int x1), some (.int x2), some (.int x3)] [] [] [])
  refine q_blk 5 [] (c' := q_kc (t, r, m, 499, 529, ext, rx, L) I E 5 [some (.ref 492), some (.int x1), some (.int x2), some (.int x3)] [.int x1, .ref 492] [(492, (q_up (I 492) 0 (0 : Int32)))] []) ok_X15_make rfl q_cn ?_
  obtain ⟨r1, hr1, hf⟩ := q_bd hf
  refine q_kV (M2 := m_X15_isHook) (As := [.int x1]) (b := 492) (v2 := some (.int (q_bz r1))) ok_X15_make ok_X15_isHook cv_X15_isHook (ct_X15_isHook_492 (d := 2) (Nat.le_refl _) hr1) rfl rfl (Or.inl rfl) rfl rfl rfl rfl (Nat.le_trans (Nat.le_of_ble_eq_true rfl) hd) (Nat.le_of_ble_eq_true rfl) (Nat.le_of_ble_eq_true rfl) (Nat.le_of_ble_eq_true rfl) (fun x hx => absurd hx List.not_mem_nil) (q_nmL0 _) (q_nmS0 _) rfl (pos' := 6) (st' := [.int (q_bz r1)]) (lI' := [(492, (q_up (I 492) 0 (0 : Int32)))]) (lE' := []) rfl rfl rfl rfl ?_
  refine q_blf 0 [] (a := q_kc (t, r, m, 499, 529, ext, rx, L) I E 11 [some (.ref 492), some (.int x1), some (.int x2), some (.int x3)] [] [(492, (q_up (I 492) 0 (0 : Int32)))] []) (b := q_kc (t, r, m, 499, 529, ext, rx, L) I E 7 [some (.ref 492), some (.int x1), some (.int x2), some (.int x3)] [] [(492, (q_up (I 492) 0 (0 : Int32)))] []) (P := ¬ (q_bz r1) = 0) ok_X15_make rfl q_cn (fun h2 => ?_) (fun h2 => ?_)
  · have hf := q_ip h2 hf
    refine q_blk 3 [] (c' := q_kc (t, r, m, 499, 529, ext, rx, L) I E 14 [some (.ref 492), some (.int x1), some (.int x2), some (.int x3)] [.int (9 : Int32), .int (1 : Int32), .int x2] [(492, (q_up (I 492) 0 (0 : Int32)))] []) ok_X15_make rfl q_cn ?_
    obtain ⟨r3, hr3, hf⟩ := q_bd hf
    refine q_kS (M2 := m_X15_isIn) (As := [.int x2, .int (1 : Int32), .int (9 : Int32)]) (v2 := some (.int (q_bz r3))) ok_X15_make ok_X15_isIn cs_X15_isIn (ct_X15_isIn (d := 1) (Nat.le_refl _) hr3) rfl rfl (Or.inl rfl) (Nat.le_trans (Nat.le_of_ble_eq_true rfl) hd) (Nat.le_of_ble_eq_true rfl) (Nat.le_of_ble_eq_true rfl) (Nat.le_of_ble_eq_true rfl) (fun x hx => absurd hx List.not_mem_nil) (q_nmL0 _) (q_nmS0 _) rfl (pos' := 15) (st' := [.int (q_bz r3)]) (lI' := [(492, (q_up (I 492) 0 (0 : Int32)))]) (lE' := []) rfl rfl rfl rfl ?_
    refine q_blf 0 [] (a := q_kc (t, r, m, 499, 529, ext, rx, L) I E 21 [some (.ref 492), some (.int x1), some (.int x2), some (.int x3)] [] [(492, (q_up (I 492) 0 (0 : Int32)))] []) (b := q_kc (t, r, m, 499, 529, ext, rx, L) I E 16 [some (.ref 492), some (.int x1), some (.int x2), some (.int x3)] [] [(492, (q_up (I 492) 0 (0 : Int32)))] []) (P := (q_bz r3) = 0) ok_X15_make rfl q_cn (fun h4 => ?_) (fun h4 => ?_)
    · have hf := q_ip h4 hf
      refine q_blk 2 [] (c' := q_kc (t, r, m, 499, 529, ext, rx, L) I E 23 [some (.ref 492), some (.int x1), some (.int x2), some (.int x3)] [.int (2 : Int32), .ref 492] [(492, (q_up (I 492) 0 (0 : Int32)))] []) ok_X15_make rfl q_cn ?_
      obtain ⟨r5, hr5, hf⟩ := q_bd hf
      refine q_kV (M2 := m_X15_no) (As := [.int (2 : Int32)]) (b := 492) (v2 := some (.int r5.1)) ok_X15_make ok_X15_no cv_X15_no (ct_X15_no_492 (d := 1) (Nat.le_refl _) hr5) rfl rfl (Or.inl rfl) rfl rfl rfl rfl (Nat.le_trans (Nat.le_of_ble_eq_true rfl) hd) (Nat.le_of_ble_eq_true rfl) (Nat.le_of_ble_eq_true rfl) (Nat.le_of_ble_eq_true rfl) (fun x hx => absurd hx List.not_mem_nil) (q_nmL0 _) (q_nmS0 _) rfl (pos' := 24) (st' := [.int r5.1]) (lI' := [(492, r5.2)]) (lE' := []) rfl rfl rfl rfl ?_
      cases hf
      exact q_kri ok_X15_make rfl rfl rfl (Nat.le_of_ble_eq_true rfl) (Nat.le_of_ble_eq_true rfl) ⟨rfl, q_hpe (q_fin [492, 510, 511, 512, 513, 514, 515, 516, 517, 518, 519] rfl) (q_fin [] rfl)⟩
    · have hf := q_in h4 hf
      refine q_blk 3 [] (c' := q_kc (t, r, m, 499, 529, ext, rx, L) I E 19 [some (.ref 492), some (.int x1), some (.int x2), some (.int x3)] [.int (3 : Int32), .int (0 : Int32), .int x3] [(492, (q_up (I 492) 0 (0 : Int32)))] []) ok_X15_make rfl q_cn ?_
      obtain ⟨r6, hr6, hf⟩ := q_bd hf
      refine q_kS (M2 := m_X15_isIn) (As := [.int x3, .int (0 : Int32), .int (3 : Int32)]) (v2 := some (.int (q_bz r6))) ok_X15_make ok_X15_isIn cs_X15_isIn (ct_X15_isIn (d := 1) (Nat.le_refl _) hr6) rfl rfl (Or.inl rfl) (Nat.le_trans (Nat.le_of_ble_eq_true rfl) hd) (Nat.le_of_ble_eq_true rfl) (Nat.le_of_ble_eq_true rfl) (Nat.le_of_ble_eq_true rfl) (fun x hx => absurd hx List.not_mem_nil) (q_nmL0 _) (q_nmS0 _) rfl (pos' := 20) (st' := [.int (q_bz r6)]) (lI' := [(492, (q_up (I 492) 0 (0 : Int32)))]) (lE' := []) rfl rfl rfl rfl ?_
      refine q_blf 0 [] (a := q_kc (t, r, m, 499, 529, ext, rx, L) I E 25 [some (.ref 492), some (.int x1), some (.int x2), some (.int x3)] [] [(492, (q_up (I 492) 0 (0 : Int32)))] []) (b := q_kc (t, r, m, 499, 529, ext, rx, L) I E 21 [some (.ref 492), some (.int x1), some (.int x2), some (.int x3)] [] [(492, (q_up (I 492) 0 (0 : Int32)))] []) (P := ¬ (q_bz r6) = 0) ok_X15_make rfl q_cn (fun h7 => ?_) (fun h7 => ?_)
      · have hf := q_ip h7 hf
        refine q_blk 5 [] (c' := q_kc (t, r, m, 499, 529, ext, rx, L) I E 30 [some (.ref 492), some (.int x1), some (.int x2), some (.int x3)] [.int x3, .int x2, .int x1, .ref 512] [(492, (q_up (I 492) 0 (0 : Int32)))] []) ok_X15_make rfl q_cn ?_
        obtain ⟨r8, hr8, hf⟩ := q_bd hf
        refine q_kV (M2 := m_X14_make) (As := [.int x1, .int x2, .int x3]) (b := 512) (v2 := some (.int (q_bz r8.1))) ok_X15_make ok_X14_make cv_X14_make (ct_X14_make_512 (d := 7) (Nat.le_refl _) hr8) rfl rfl (Or.inl rfl) rfl rfl rfl rfl (Nat.le_trans (Nat.le_of_ble_eq_true rfl) hd) (Nat.le_of_ble_eq_true rfl) (Nat.le_of_ble_eq_true rfl) (Nat.le_of_ble_eq_true rfl) (fun x hx => absurd hx List.not_mem_nil) (q_nmL0 _) (q_nmS0 _) rfl (pos' := 31) (st' := [.int (q_bz r8.1)]) (lI' := [(492, r8.2.1), (510, r8.2.2.1), (511, r8.2.2.2.1), (512, r8.2.2.2.2.1), (513, r8.2.2.2.2.2.1), (514, r8.2.2.2.2.2.2.1), (515, r8.2.2.2.2.2.2.2.1), (516, r8.2.2.2.2.2.2.2.2.1), (517, r8.2.2.2.2.2.2.2.2.2.1), (518, r8.2.2.2.2.2.2.2.2.2.2.1), (519, r8.2.2.2.2.2.2.2.2.2.2.2)]) (lE' := []) rfl rfl rfl rfl ?_
        refine q_blf 0 [] (a := q_kc (t, r, m, 499, 529, ext, rx, L) I E 42 [some (.ref 492), some (.int x1), some (.int x2), some (.int x3)] [] [(492, r8.2.1), (510, r8.2.2.1), (511, r8.2.2.2.1), (512, r8.2.2.2.2.1), (513, r8.2.2.2.2.2.1), (514, r8.2.2.2.2.2.2.1), (515, r8.2.2.2.2.2.2.2.1), (516, r8.2.2.2.2.2.2.2.2.1), (517, r8.2.2.2.2.2.2.2.2.2.1), (518, r8.2.2.2.2.2.2.2.2.2.2.1), (519, r8.2.2.2.2.2.2.2.2.2.2.2)] []) (b := q_kc (t, r, m, 499, 529, ext, rx, L) I E 32 [some (.ref 492), some (.int x1), some (.int x2), some (.int x3)] [] [(492, r8.2.1), (510, r8.2.2.1), (511, r8.2.2.2.1), (512, r8.2.2.2.2.1), (513, r8.2.2.2.2.2.1), (514, r8.2.2.2.2.2.2.1), (515, r8.2.2.2.2.2.2.2.1), (516, r8.2.2.2.2.2.2.2.2.1), (517, r8.2.2.2.2.2.2.2.2.2.1), (518, r8.2.2.2.2.2.2.2.2.2.2.1), (519, r8.2.2.2.2.2.2.2.2.2.2.2)] []) (P := (q_bz r8.1) = 0) ok_X15_make rfl q_cn (fun h9 => ?_) (fun h9 => ?_)
        · have hf := q_ip h9 hf
          refine q_blk 2 [] (c' := q_kc (t, r, m, 499, 529, ext, rx, L) I E 44 [some (.ref 492), some (.int x1), some (.int x2), some (.int x3)] [.int (3 : Int32), .ref 492] [(492, r8.2.1), (510, r8.2.2.1), (511, r8.2.2.2.1), (512, r8.2.2.2.2.1), (513, r8.2.2.2.2.2.1), (514, r8.2.2.2.2.2.2.1), (515, r8.2.2.2.2.2.2.2.1), (516, r8.2.2.2.2.2.2.2.2.1), (517, r8.2.2.2.2.2.2.2.2.2.1), (518, r8.2.2.2.2.2.2.2.2.2.2.1), (519, r8.2.2.2.2.2.2.2.2.2.2.2)] []) ok_X15_make rfl q_cn ?_
          obtain ⟨r10, hr10, hf⟩ := q_bd hf
          refine q_kV (M2 := m_X15_no) (As := [.int (3 : Int32)]) (b := 492) (v2 := some (.int r10.1)) ok_X15_make ok_X15_no cv_X15_no (ct_X15_no_492 (d := 1) (Nat.le_refl _) hr10) rfl rfl (Or.inl rfl) rfl rfl rfl rfl (Nat.le_trans (Nat.le_of_ble_eq_true rfl) hd) (Nat.le_of_ble_eq_true rfl) (Nat.le_of_ble_eq_true rfl) (Nat.le_of_ble_eq_true rfl) (fun x hx => absurd hx List.not_mem_nil) (q_nmL0 _) (q_nmS0 _) rfl (pos' := 45) (st' := [.int r10.1]) (lI' := [(492, r10.2), (510, r8.2.2.1), (511, r8.2.2.2.1), (512, r8.2.2.2.2.1), (513, r8.2.2.2.2.2.1), (514, r8.2.2.2.2.2.2.1), (515, r8.2.2.2.2.2.2.2.1), (516, r8.2.2.2.2.2.2.2.2.1), (517, r8.2.2.2.2.2.2.2.2.2.1), (518, r8.2.2.2.2.2.2.2.2.2.2.1), (519, r8.2.2.2.2.2.2.2.2.2.2.2)]) (lE' := []) rfl rfl rfl rfl ?_
          cases hf
          exact q_kri ok_X15_make rfl rfl rfl (Nat.le_of_ble_eq_true rfl) (Nat.le_of_ble_eq_true rfl) ⟨rfl, q_hpe (q_fin [492, 510, 511, 512, 513, 514, 515, 516, 517, 518, 519] rfl) (q_fin [] rfl)⟩
        · have hf := q_in h9 hf
          obtain ⟨j11, hj11, hf⟩ := q_bd hf
          obtain ⟨j12, hj12, hf⟩ := q_bd hf
          refine q_blk 10 [j11, j12] (c' := q_kc (t, r, m, 499, 529, ext, rx, L) I E 45 [some (.ref 492), some (.int x1), some (.int x2), some (.int x3)] [.int (r8.2.2.2.2.2.2.2.1 j12)] [(492, r8.2.1), (510, r8.2.2.1), (511, r8.2.2.2.1), (512, r8.2.2.2.2.1), (513, r8.2.2.2.2.2.1), (514, r8.2.2.2.2.2.2.1), (515, r8.2.2.2.2.2.2.2.1), (516, r8.2.2.2.2.2.2.2.2.1), (517, r8.2.2.2.2.2.2.2.2.2.1), (518, r8.2.2.2.2.2.2.2.2.2.2.1), (519, r8.2.2.2.2.2.2.2.2.2.2.2)] []) ok_X15_make rfl (q_cc hj12 (q_cc hj11 q_cn)) ?_
          cases hf
          exact q_kri ok_X15_make rfl rfl rfl (Nat.le_of_ble_eq_true rfl) (Nat.le_of_ble_eq_true rfl) ⟨rfl, q_hpe (q_fin [492, 510, 511, 512, 513, 514, 515, 516, 517, 518, 519] rfl) (q_fin [] rfl)⟩
      · have hf := q_in h7 hf
        refine q_blk 2 [] (c' := q_kc (t, r, m, 499, 529, ext, rx, L) I E 23 [some (.ref 492), some (.int x1), some (.int x2), some (.int x3)] [.int (2 : Int32), .ref 492] [(492, (q_up (I 492) 0 (0 : Int32)))] []) ok_X15_make rfl q_cn ?_
        obtain ⟨r13, hr13, hf⟩ := q_bd hf
        refine q_kV (M2 := m_X15_no) (As := [.int (2 : Int32)]) (b := 492) (v2 := some (.int r13.1)) ok_X15_make ok_X15_no cv_X15_no (ct_X15_no_492 (d := 1) (Nat.le_refl _) hr13) rfl rfl (Or.inl rfl) rfl rfl rfl rfl (Nat.le_trans (Nat.le_of_ble_eq_true rfl) hd) (Nat.le_of_ble_eq_true rfl) (Nat.le_of_ble_eq_true rfl) (Nat.le_of_ble_eq_true rfl) (fun x hx => absurd hx List.not_mem_nil) (q_nmL0 _) (q_nmS0 _) rfl (pos' := 24) (st' := [.int r13.1]) (lI' := [(492, r13.2)]) (lE' := []) rfl rfl rfl rfl ?_
        cases hf
        exact q_kri ok_X15_make rfl rfl rfl (Nat.le_of_ble_eq_true rfl) (Nat.le_of_ble_eq_true rfl) ⟨rfl, q_hpe (q_fin [492, 510, 511, 512, 513, 514, 515, 516, 517, 518, 519] rfl) (q_fin [] rfl)⟩
  · have hf := q_in h2 hf
    refine q_blk 2 [] (c' := q_kc (t, r, m, 499, 529, ext, rx, L) I E 9 [some (.ref 492), some (.int x1), some (.int x2), some (.int x3)] [.int (1 : Int32), .ref 492] [(492, (q_up (I 492) 0 (0 : Int32)))] []) ok_X15_make rfl q_cn ?_
    obtain ⟨r14, hr14, hf⟩ := q_bd hf
    refine q_kV (M2 := m_X15_no) (As := [.int (1 : Int32)]) (b := 492) (v2 := some (.int r14.1)) ok_X15_make ok_X15_no cv_X15_no (ct_X15_no_492 (d := 1) (Nat.le_refl _) hr14) rfl rfl (Or.inl rfl) rfl rfl rfl rfl (Nat.le_trans (Nat.le_of_ble_eq_true rfl) hd) (Nat.le_of_ble_eq_true rfl) (Nat.le_of_ble_eq_true rfl) (Nat.le_of_ble_eq_true rfl) (fun x hx => absurd hx List.not_mem_nil) (q_nmL0 _) (q_nmS0 _) rfl (pos' := 10) (st' := [.int r14.1]) (lI' := [(492, r14.2)]) (lE' := []) rfl rfl rfl rfl ?_
    cases hf
    exact q_kri ok_X15_make rfl rfl rfl (Nat.le_of_ble_eq_true rfl) (Nat.le_of_ble_eq_true rfl) ⟨rfl, q_hpe (q_fin [492, 510, 511, 512, 513, 514, 515, 516, 517, 518, 519] rfl) (q_fin [] rfl)⟩
set_option maxHeartbeats 4000000 in
theorem ct_X14_tie_512 {g : q_G} {t : Nat} {r : Nat} {m : Nat} {z : Nat} {N : Nat} {ext : Nat → q_Sh} {rx : Nat → Nat → Option Nat} {L : Nat → Nat → Int64} {d : Nat} (hd : 3 ≤ d)  {I : Nat → Nat → Int32} {E : Nat → Nat → Option Nat} {x1 : Int32} {x2 : Int32} {x3 : Int32} {r0 : Bool × (Nat → Int32)} (hf : f_X14_tie (I 513) (I 517) (I 519) x1 x2 x3 = some r0) : q_Ct g m_X14_tie d 0 0 [] [.ref 512, .int x1, .int x2, .int x3] (q_hp (t, r, m, z, N, ext, rx, L) I E) (fun o h' => o = .inl (some (.int (q_bz r0.1))) ∧ h' = q_hp (t, r, m, z, N, ext, rx, L) (q_ws I [(519, r0.2)]) (q_ws E [])) := by
  rw [f_X14_tie] at hf
  refine q_Ct_of ok_X14_tie (Nat.le_of_ble_eq_true rfl) ?_ _ rfl rfl
  change q_J g m_X14_tie d 0 0 _ [] _ 0 0 (q_kc (t, r, m, z, N, ext, rx, L) I E 0 [some (.ref 512), some (.int x1), some (.int x2), some (.int x3)] [] [] [])
  refine q_blk 3 [] (c' := q_kc (t, r, m, z, N, ext, rx, L) I E 3 [some (.ref 512), some (.int x1), some (.int x2), some (.int x3)] [.int x2, .int x1, .ref 512] [] []) ok_X14_tie rfl q_cn ?_
  obtain ⟨r1, hr1, hf⟩ := q_bd hf
  refine q_kV (M2 := m_X14_hasRope) (As := [.int x1, .int x2]) (b := 512) (v2 := some (.int (q_bz r1))) ok_X14_tie ok_X14_hasRope cv_X14_hasRope (ct_X14_hasRope_512 (d := 2) (Nat.le_refl _) hr1) rfl rfl (Or.inl rfl) rfl rfl rfl rfl (Nat.le_trans (Nat.le_of_ble_eq_true rfl) hd) (Nat.le_of_ble_eq_true rfl) (Nat.le_of_ble_eq_true rfl) (Nat.le_of_ble_eq_true rfl) (fun x hx => absurd hx List.not_mem_nil) (q_nmL0 _) (q_nmS0 _) rfl (pos' := 4) (st' := [.int (q_bz r1)]) (lI' := []) (lE' := []) rfl rfl rfl rfl ?_
  refine q_blf 0 [] (a := q_kc (t, r, m, z, N, ext, rx, L) I E 11 [some (.ref 512), some (.int x1), some (.int x2), some (.int x3)] [] [] []) (b := q_kc (t, r, m, z, N, ext, rx, L) I E 5 [some (.ref 512), some (.int x1), some (.int x2), some (.int x3)] [] [] []) (P := (q_bz r1) = 0) ok_X14_tie rfl q_cn (fun h2 => ?_) (fun h2 => ?_)
  · have hf := q_ip h2 hf
    refine q_blk 1 [] (c' := q_kc (t, r, m, z, N, ext, rx, L) I E 12 [some (.ref 512), some (.int x1), some (.int x2), some (.int x3)] [.int (0 : Int32)] [] []) ok_X14_tie rfl q_cn ?_
    cases hf
    exact q_kri ok_X14_tie rfl rfl rfl (Nat.le_of_ble_eq_true rfl) (Nat.le_of_ble_eq_true rfl) ⟨rfl, q_hpe (q_fin [519] rfl) (q_fin [] rfl)⟩
  · have hf := q_in h2 hf
    obtain ⟨j3, hj3, hf⟩ := q_bd hf
    refine q_blf 5 [j3] (a := q_kc (t, r, m, z, N, ext, rx, L) I E 13 [some (.ref 512), some (.int x1), some (.int x2), some (.int x3)] [] [] []) (b := q_kc (t, r, m, z, N, ext, rx, L) I E 11 [some (.ref 512), some (.int x1), some (.int x2), some (.int x3)] [] [] []) (P := ¬ ((I 513) j3) = (-1 : Int32)) ok_X14_tie rfl (q_cc hj3 q_cn) (fun h4 => ?_) (fun h4 => ?_)
    · have hf := q_ip h4 hf
      obtain ⟨j5, hj5, hf⟩ := q_bd hf
      obtain ⟨j6, hj6, hf⟩ := q_bd hf
      obtain ⟨j7, hj7, hf⟩ := q_bd hf
      refine q_blk 16 [j5, j6, j7] (c' := q_kc (t, r, m, z, N, ext, rx, L) I E 29 [some (.ref 512), some (.int x1), some (.int x2), some (.int x3)] [.int (1 : Int32)] [(519, (q_up (I 519) j7 ((I 513) j6)))] []) ok_X14_tie rfl (q_cc hj7 (q_cc hj6 (q_cc hj5 q_cn))) ?_
      cases hf
      exact q_kri ok_X14_tie rfl rfl rfl (Nat.le_of_ble_eq_true rfl) (Nat.le_of_ble_eq_true rfl) ⟨rfl, q_hpe (q_fin [519] rfl) (q_fin [] rfl)⟩
    · have hf := q_in h4 hf
      refine q_blk 1 [] (c' := q_kc (t, r, m, z, N, ext, rx, L) I E 12 [some (.ref 512), some (.int x1), some (.int x2), some (.int x3)] [.int (0 : Int32)] [] []) ok_X14_tie rfl q_cn ?_
      cases hf
      exact q_kri ok_X14_tie rfl rfl rfl (Nat.le_of_ble_eq_true rfl) (Nat.le_of_ble_eq_true rfl) ⟨rfl, q_hpe (q_fin [519] rfl) (q_fin [] rfl)⟩
set_option maxHeartbeats 4000000 in
theorem lp_X15_tie_L30_492 {g : q_G} {d mc ms : Nat} {h0 : q_H} {Q : (Option Value ⊕ String) → q_H → Prop} {k n : Nat} {t : Nat} {r : Nat} {m : Nat} {z : Nat} {N : Nat} {ext : Nat → q_Sh} {rx : Nat → Nat → Option Nat} {L : Nat → Nat → Int64} (hd : 4 ≤ d) (hk : k ≤ mc) (hn : n ≤ ms)  {v1 : Int32} : ∀ (fu : Nat) {I : Nat → Nat → Int32} {E : Nat → Nat → Option Nat} {v4 : Int32} {v5 : Int32} {r0 : Int32} (hf : f_X15_tie_L30 (I 513) (I 517) (I 519) v1 fu v4 v5 = some r0) (hK0 : q_J g m_X15_tie d mc ms h0 [] Q k n (q_kc (t, r, m, z, N, ext, rx, L) I E 56 [none, none, none, none, some (.int r0), none] [] [] [])), q_J g m_X15_tie d mc ms h0 [] Q k n (30, [some (.ref 492), some (.int v1), none, none, some (.int v4), some (.int v5)], [], q_hp (t, r, m, z, N, ext, rx, L) I E) := by
  intro fu
  induction fu with
  | zero =>
    intro I E v4 v5 r0 hf hK0
    rw [f_X15_tie_L30] at hf
    cases hf
  | succ fu ih =>
    intro I E v4 v5 r0 hf hK0
    rw [f_X15_tie_L30] at hf
    change q_J g m_X15_tie d mc ms h0 [] Q k n (q_kc (t, r, m, z, N, ext, rx, L) I E 30 [some (.ref 492), some (.int v1), none, none, some (.int v4), some (.int v5)] [] [] [])
    obtain ⟨j1, hj1, hf⟩ := q_bd hf
    obtain ⟨j2, hj2, hf⟩ := q_bd hf
    refine q_blf 10 [j1, j2] (a := q_kc (t, r, m, z, N, ext, rx, L) I E 56 [some (.ref 492), some (.int v1), none, none, some (.int v4), some (.int v5)] [] [] []) (b := q_kc (t, r, m, z, N, ext, rx, L) I E 41 [some (.ref 492), some (.int v1), none, none, some (.int v4), some (.int v5)] [] [] []) (P := ((I 517) j2) ≤ v5) ok_X15_tie rfl (q_cc hj2 (q_cc hj1 q_cn)) (fun h3 => ?_) (fun h3 => ?_)
    · have hf := q_ip h3 hf
      refine q_less (ls' := [none, none, none, none, some (.int v4), none]) (q_sb1 (q_sb1 (q_sb1 (q_sb1 (q_sb2 (q_sb1 q_sb0)))))) ?_
      cases hf
      exact q_Jpad [] [] rfl rfl hK0
    · have hf := q_in h3 hf
      refine q_blk 5 [] (c' := q_kc (t, r, m, z, N, ext, rx, L) I E 46 [some (.ref 492), some (.int v1), none, none, some (.int v4), some (.int v5)] [.int v5, .int v1, .ref 512, .int v4] [] []) ok_X15_tie rfl q_cn ?_
      obtain ⟨r4, hr4, hf⟩ := q_bd hf
      refine q_kV (M2 := m_X14_leadsTo) (As := [.int v1, .int v5]) (b := 512) (v2 := some (.int r4)) ok_X15_tie ok_X14_leadsTo cv_X14_leadsTo (ct_X14_leadsTo_512 (d := 1) (Nat.le_refl _) hr4) rfl rfl (Or.inl rfl) rfl rfl rfl rfl (Nat.le_trans (Nat.le_of_ble_eq_true rfl) hd) hk hn (Nat.le_of_ble_eq_true rfl) (fun x hx => absurd hx List.not_mem_nil) (q_nmL0 _) (q_nmS0 _) rfl (pos' := 47) (st' := [.int r4, .int v4]) (lI' := []) (lE' := []) rfl rfl rfl rfl ?_
      refine q_blf 1 [] (a := q_kc (t, r, m, z, N, ext, rx, L) I E 51 [some (.ref 492), some (.int v1), none, none, some (.int v4), some (.int v5)] [.int v4] [] []) (b := q_kc (t, r, m, z, N, ext, rx, L) I E 49 [some (.ref 492), some (.int v1), none, none, some (.int v4), some (.int v5)] [.int v4] [] []) (P := ¬ r4 = (-1 : Int32)) ok_X15_tie rfl q_cn (fun h5 => ?_) (fun h5 => ?_)
      · have hf := q_ip h5 hf
        refine q_blk 5 [] (c' := q_kc (t, r, m, z, N, ext, rx, L) I E 30 [some (.ref 492), some (.int v1), none, none, some (.int (v4 + (1 : Int32))), some (.int (v5 + 1))] [] [] []) ok_X15_tie rfl q_cn ?_
        exact ih (I := q_ws I []) (E := q_ws E []) hf (q_Jmrg rfl rfl hK0)
      · have hf := q_in h5 hf
        refine q_blk 6 [] (c' := q_kc (t, r, m, z, N, ext, rx, L) I E 30 [some (.ref 492), some (.int v1), none, none, some (.int (v4 + (0 : Int32))), some (.int (v5 + 1))] [] [] []) ok_X15_tie rfl q_cn ?_
        exact ih (I := q_ws I []) (E := q_ws E []) hf (q_Jmrg rfl rfl hK0)
set_option maxHeartbeats 4000000 in
theorem ct_X15_tie_492 {g : q_G} {t : Nat} {r : Nat} {m : Nat} {z : Nat} {N : Nat} {ext : Nat → q_Sh} {rx : Nat → Nat → Option Nat} {L : Nat → Nat → Int64} {d : Nat} (hd : 4 ≤ d)  {I : Nat → Nat → Int32} {E : Nat → Nat → Option Nat} {x1 : Int32} {x2 : Int32} {x3 : Int32} {r0 : Int32 × (Nat → Int32) × (Nat → Int32)} (hf : f_X15_tie (I 492) (I 499) (I 513) (I 517) (I 519) x1 x2 x3 = some r0) : q_Ct g m_X15_tie d 0 0 [] [.ref 492, .int x1, .int x2, .int x3] (q_hp (t, r, m, z, N, ext, rx, L) I E) (fun o h' => o = .inl (some (.int r0.1)) ∧ h' = q_hp (t, r, m, z, N, ext, rx, L) (q_ws I [(492, r0.2.1), (519, r0.2.2)]) (q_ws E [])) := by
  rw [f_X15_tie] at hf
  refine q_Ct_of ok_X15_tie (Nat.le_of_ble_eq_true rfl) ?_ _ rfl rfl
  change q_J g m_X15_tie d 0 0 _ [] _ 0 0 (q_kc (t, r, m, z, N, ext, rx, L) I E 0 [some (.ref 492), some (.int x1), some (.int x2), some (.int x3), none, none] [] [] [])
  refine q_blk 5 [] (c' := q_kc (t, r, m, z, N, ext, rx, L) I E 5 [some (.ref 492), some (.int x1), some (.int x2), some (.int x3), none, none] [.int x1, .ref 492] [(492, (q_up (I 492) 0 (0 : Int32)))] []) ok_X15_tie rfl q_cn ?_
  obtain ⟨r6, hr6, hf⟩ := q_bd hf
  refine q_kV (M2 := m_X15_isHook) (As := [.int x1]) (b := 492) (v2 := some (.int (q_bz r6))) ok_X15_tie ok_X15_isHook cv_X15_isHook (ct_X15_isHook_492 (d := 2) (Nat.le_refl _) hr6) rfl rfl (Or.inl rfl) rfl rfl rfl rfl (Nat.le_trans (Nat.le_of_ble_eq_true rfl) hd) (Nat.le_of_ble_eq_true rfl) (Nat.le_of_ble_eq_true rfl) (Nat.le_of_ble_eq_true rfl) (fun x hx => absurd hx List.not_mem_nil) (q_nmL0 _) (q_nmS0 _) rfl (pos' := 6) (st' := [.int (q_bz r6)]) (lI' := [(492, (q_up (I 492) 0 (0 : Int32)))]) (lE' := []) rfl rfl rfl rfl ?_
  refine q_blf 0 [] (a := q_kc (t, r, m, z, N, ext, rx, L) I E 11 [some (.ref 492), some (.int x1), some (.int x2), some (.int x3), none, none] [] [(492, (q_up (I 492) 0 (0 : Int32)))] []) (b := q_kc (t, r, m, z, N, ext, rx, L) I E 7 [some (.ref 492), some (.int x1), some (.int x2), some (.int x3), none, none] [] [(492, (q_up (I 492) 0 (0 : Int32)))] []) (P := (q_bz r6) = 0) ok_X15_tie rfl q_cn (fun h7 => ?_) (fun h7 => ?_)
  · have hf := q_ip h7 hf
    refine q_blk 2 [] (c' := q_kc (t, r, m, z, N, ext, rx, L) I E 13 [some (.ref 492), some (.int x1), some (.int x2), some (.int x3), none, none] [.int (1 : Int32), .ref 492] [(492, (q_up (I 492) 0 (0 : Int32)))] []) ok_X15_tie rfl q_cn ?_
    obtain ⟨r8, hr8, hf⟩ := q_bd hf
    refine q_kV (M2 := m_X15_no) (As := [.int (1 : Int32)]) (b := 492) (v2 := some (.int r8.1)) ok_X15_tie ok_X15_no cv_X15_no (ct_X15_no_492 (d := 1) (Nat.le_refl _) hr8) rfl rfl (Or.inl rfl) rfl rfl rfl rfl (Nat.le_trans (Nat.le_of_ble_eq_true rfl) hd) (Nat.le_of_ble_eq_true rfl) (Nat.le_of_ble_eq_true rfl) (Nat.le_of_ble_eq_true rfl) (fun x hx => absurd hx List.not_mem_nil) (q_nmL0 _) (q_nmS0 _) rfl (pos' := 14) (st' := [.int r8.1]) (lI' := [(492, r8.2)]) (lE' := []) rfl rfl rfl rfl ?_
    cases hf
    exact q_kri ok_X15_tie rfl rfl rfl (Nat.le_of_ble_eq_true rfl) (Nat.le_of_ble_eq_true rfl) ⟨rfl, q_hpe (q_fin [492, 519] rfl) (q_fin [] rfl)⟩
  · have hf := q_in h7 hf
    refine q_blk 2 [] (c' := q_kc (t, r, m, z, N, ext, rx, L) I E 9 [some (.ref 492), some (.int x1), some (.int x2), some (.int x3), none, none] [.int x3, .ref 492] [(492, (q_up (I 492) 0 (0 : Int32)))] []) ok_X15_tie rfl q_cn ?_
    obtain ⟨r9, hr9, hf⟩ := q_bd hf
    refine q_kV (M2 := m_X15_isHook) (As := [.int x3]) (b := 492) (v2 := some (.int (q_bz r9))) ok_X15_tie ok_X15_isHook cv_X15_isHook (ct_X15_isHook_492 (d := 2) (Nat.le_refl _) hr9) rfl rfl (Or.inl rfl) rfl rfl rfl rfl (Nat.le_trans (Nat.le_of_ble_eq_true rfl) hd) (Nat.le_of_ble_eq_true rfl) (Nat.le_of_ble_eq_true rfl) (Nat.le_of_ble_eq_true rfl) (fun x hx => absurd hx List.not_mem_nil) (q_nmL0 _) (q_nmS0 _) rfl (pos' := 10) (st' := [.int (q_bz r9)]) (lI' := [(492, (q_up (I 492) 0 (0 : Int32)))]) (lE' := []) rfl rfl rfl rfl ?_
    refine q_blf 0 [] (a := q_kc (t, r, m, z, N, ext, rx, L) I E 15 [some (.ref 492), some (.int x1), some (.int x2), some (.int x3), none, none] [] [(492, (q_up (I 492) 0 (0 : Int32)))] []) (b := q_kc (t, r, m, z, N, ext, rx, L) I E 11 [some (.ref 492), some (.int x1), some (.int x2), some (.int x3), none, none] [] [(492, (q_up (I 492) 0 (0 : Int32)))] []) (P := ¬ (q_bz r9) = 0) ok_X15_tie rfl q_cn (fun h10 => ?_) (fun h10 => ?_)
    · have hf := q_ip h10 hf
      refine q_blk 5 [] (c' := q_kc (t, r, m, z, N, ext, rx, L) I E 20 [some (.ref 492), some (.int x1), some (.int x2), some (.int x3), none, none] [.int x3, .int x2, .int x1, .ref 512] [(492, (q_up (I 492) 0 (0 : Int32)))] []) ok_X15_tie rfl q_cn ?_
      obtain ⟨r11, hr11, hf⟩ := q_bd hf
      refine q_kV (M2 := m_X14_tie) (As := [.int x1, .int x2, .int x3]) (b := 512) (v2 := some (.int (q_bz r11.1))) ok_X15_tie ok_X14_tie cv_X14_tie (ct_X14_tie_512 (d := 3) (Nat.le_refl _) hr11) rfl rfl (Or.inl rfl) rfl rfl rfl rfl (Nat.le_trans (Nat.le_of_ble_eq_true rfl) hd) (Nat.le_of_ble_eq_true rfl) (Nat.le_of_ble_eq_true rfl) (Nat.le_of_ble_eq_true rfl) (fun x hx => absurd hx List.not_mem_nil) (q_nmL0 _) (q_nmS0 _) rfl (pos' := 21) (st' := [.int (q_bz r11.1)]) (lI' := [(492, (q_up (I 492) 0 (0 : Int32))), (519, r11.2)]) (lE' := []) rfl rfl rfl rfl ?_
      refine q_blf 0 [] (a := q_kc (t, r, m, z, N, ext, rx, L) I E 26 [some (.ref 492), some (.int x1), some (.int x2), some (.int x3), none, none] [] [(492, (q_up (I 492) 0 (0 : Int32))), (519, r11.2)] []) (b := q_kc (t, r, m, z, N, ext, rx, L) I E 22 [some (.ref 492), some (.int x1), some (.int x2), some (.int x3), none, none] [] [(492, (q_up (I 492) 0 (0 : Int32))), (519, r11.2)] []) (P := ¬ (q_bz r11.1) = 0) ok_X15_tie rfl q_cn (fun h12 => ?_) (fun h12 => ?_)
      · have hf := q_ip h12 hf
        refine q_blk 4 [] (c' := q_kc (t, r, m, z, N, ext, rx, L) I E 30 [some (.ref 492), some (.int x1), some (.int x2), some (.int x3), some (.int (0 : Int32)), some (.int (0 : Int32))] [] [(492, (q_up (I 492) 0 (0 : Int32))), (519, r11.2)] []) ok_X15_tie rfl q_cn ?_
        refine q_less (ls' := [some (.ref 492), some (.int x1), none, none, some (.int (0 : Int32)), some (.int (0 : Int32))]) (q_sb2 (q_sb2 (q_sb1 (q_sb1 (q_sb2 (q_sb2 q_sb0)))))) ?_
        obtain ⟨r13, hr13, hf⟩ := q_bd hf
        refine lp_X15_tie_L30_492 (I := q_ws I [(492, (q_up (I 492) 0 (0 : Int32))), (519, r11.2)]) (E := q_ws E []) hd (Nat.le_of_ble_eq_true rfl) (Nat.le_of_ble_eq_true rfl) 4096 hr13 ?_
        refine q_Jmrg (lI' := [(492, (q_up (I 492) 0 (0 : Int32))), (519, r11.2)]) (lE' := []) rfl rfl ?_
        refine q_blk 1 [] (c' := q_kc (t, r, m, z, N, ext, rx, L) I E 57 [none, none, none, none, some (.int r13), none] [.int r13] [(492, (q_up (I 492) 0 (0 : Int32))), (519, r11.2)] []) ok_X15_tie rfl q_cn ?_
        cases hf
        exact q_kri ok_X15_tie rfl rfl rfl (Nat.le_of_ble_eq_true rfl) (Nat.le_of_ble_eq_true rfl) ⟨rfl, q_hpe (q_fin [492, 519] rfl) (q_fin [] rfl)⟩
      · have hf := q_in h12 hf
        refine q_blk 2 [] (c' := q_kc (t, r, m, z, N, ext, rx, L) I E 24 [some (.ref 492), some (.int x1), some (.int x2), some (.int x3), none, none] [.int (2 : Int32), .ref 492] [(492, (q_up (I 492) 0 (0 : Int32))), (519, r11.2)] []) ok_X15_tie rfl q_cn ?_
        obtain ⟨r14, hr14, hf⟩ := q_bd hf
        refine q_kV (M2 := m_X15_no) (As := [.int (2 : Int32)]) (b := 492) (v2 := some (.int r14.1)) ok_X15_tie ok_X15_no cv_X15_no (ct_X15_no_492 (d := 1) (Nat.le_refl _) hr14) rfl rfl (Or.inl rfl) rfl rfl rfl rfl (Nat.le_trans (Nat.le_of_ble_eq_true rfl) hd) (Nat.le_of_ble_eq_true rfl) (Nat.le_of_ble_eq_true rfl) (Nat.le_of_ble_eq_true rfl) (fun x hx => absurd hx List.not_mem_nil) (q_nmL0 _) (q_nmS0 _) rfl (pos' := 25) (st' := [.int r14.1]) (lI' := [(492, r14.2), (519, r11.2)]) (lE' := []) rfl rfl rfl rfl ?_
        cases hf
        exact q_kri ok_X15_tie rfl rfl rfl (Nat.le_of_ble_eq_true rfl) (Nat.le_of_ble_eq_true rfl) ⟨rfl, q_hpe (q_fin [492, 519] rfl) (q_fin [] rfl)⟩
    · have hf := q_in h10 hf
      refine q_blk 2 [] (c' := q_kc (t, r, m, z, N, ext, rx, L) I E 13 [some (.ref 492), some (.int x1), some (.int x2), some (.int x3), none, none] [.int (1 : Int32), .ref 492] [(492, (q_up (I 492) 0 (0 : Int32)))] []) ok_X15_tie rfl q_cn ?_
      obtain ⟨r15, hr15, hf⟩ := q_bd hf
      refine q_kV (M2 := m_X15_no) (As := [.int (1 : Int32)]) (b := 492) (v2 := some (.int r15.1)) ok_X15_tie ok_X15_no cv_X15_no (ct_X15_no_492 (d := 1) (Nat.le_refl _) hr15) rfl rfl (Or.inl rfl) rfl rfl rfl rfl (Nat.le_trans (Nat.le_of_ble_eq_true rfl) hd) (Nat.le_of_ble_eq_true rfl) (Nat.le_of_ble_eq_true rfl) (Nat.le_of_ble_eq_true rfl) (fun x hx => absurd hx List.not_mem_nil) (q_nmL0 _) (q_nmS0 _) rfl (pos' := 14) (st' := [.int r15.1]) (lI' := [(492, r15.2)]) (lE' := []) rfl rfl rfl rfl ?_
      cases hf
      exact q_kri ok_X15_tie rfl rfl rfl (Nat.le_of_ble_eq_true rfl) (Nat.le_of_ble_eq_true rfl) ⟨rfl, q_hpe (q_fin [492, 519] rfl) (q_fin [] rfl)⟩
set_option maxHeartbeats 4000000 in
theorem ct_X14_follow_512 {g : q_G} {t : Nat} {r : Nat} {m : Nat} {z : Nat} {N : Nat} {ext : Nat → q_Sh} {rx : Nat → Nat → Option Nat} {L : Nat → Nat → Int64} {d : Nat} (hd : 3 ≤ d)  {I : Nat → Nat → Int32} {E : Nat → Nat → Option Nat} {x1 : Int32} {x2 : Int32} {x3 : Int32} {r0 : Bool × (Nat → Int32)} (hf : f_X14_follow (I 513) (I 517) (I 519) x1 x2 x3 = some r0) : q_Ct g m_X14_follow d 0 0 [] [.ref 512, .int x1, .int x2, .int x3] (q_hp (t, r, m, z, N, ext, rx, L) I E) (fun o h' => o = .inl (some (.int (q_bz r0.1))) ∧ h' = q_hp (t, r, m, z, N, ext, rx, L) (q_ws I [(513, r0.2)]) (q_ws E [])) := by
  rw [f_X14_follow] at hf
  refine q_Ct_of ok_X14_follow (Nat.le_of_ble_eq_true rfl) ?_ _ rfl rfl
  change q_J g m_X14_follow d 0 0 _ [] _ 0 0 (q_kc (t, r, m, z, N, ext, rx, L) I E 0 [some (.ref 512), some (.int x1), some (.int x2), some (.int x3)] [] [] [])
  refine q_blk 3 [] (c' := q_kc (t, r, m, z, N, ext, rx, L) I E 3 [some (.ref 512), some (.int x1), some (.int x2), some (.int x3)] [.int x3, .int x2, .ref 512] [] []) ok_X14_follow rfl q_cn ?_
  obtain ⟨r1, hr1, hf⟩ := q_bd hf
  refine q_kV (M2 := m_X14_hasRope) (As := [.int x2, .int x3]) (b := 512) (v2 := some (.int (q_bz r1))) ok_X14_follow ok_X14_hasRope cv_X14_hasRope (ct_X14_hasRope_512 (d := 2) (Nat.le_refl _) hr1) rfl rfl (Or.inl rfl) rfl rfl rfl rfl (Nat.le_trans (Nat.le_of_ble_eq_true rfl) hd) (Nat.le_of_ble_eq_true rfl) (Nat.le_of_ble_eq_true rfl) (Nat.le_of_ble_eq_true rfl) (fun x hx => absurd hx List.not_mem_nil) (q_nmL0 _) (q_nmS0 _) rfl (pos' := 4) (st' := [.int (q_bz r1)]) (lI' := []) (lE' := []) rfl rfl rfl rfl ?_
  refine q_blf 0 [] (a := q_kc (t, r, m, z, N, ext, rx, L) I E 11 [some (.ref 512), some (.int x1), some (.int x2), some (.int x3)] [] [] []) (b := q_kc (t, r, m, z, N, ext, rx, L) I E 5 [some (.ref 512), some (.int x1), some (.int x2), some (.int x3)] [] [] []) (P := (q_bz r1) = 0) ok_X14_follow rfl q_cn (fun h2 => ?_) (fun h2 => ?_)
  · have hf := q_ip h2 hf
    refine q_blk 1 [] (c' := q_kc (t, r, m, z, N, ext, rx, L) I E 12 [some (.ref 512), some (.int x1), some (.int x2), some (.int x3)] [.int (0 : Int32)] [] []) ok_X14_follow rfl q_cn ?_
    cases hf
    exact q_kri ok_X14_follow rfl rfl rfl (Nat.le_of_ble_eq_true rfl) (Nat.le_of_ble_eq_true rfl) ⟨rfl, q_hpe (q_fin [513] rfl) (q_fin [] rfl)⟩
  · have hf := q_in h2 hf
    refine q_blk 3 [] (c' := q_kc (t, r, m, z, N, ext, rx, L) I E 8 [some (.ref 512), some (.int x1), some (.int x2), some (.int x3)] [.int x3, .int x2, .ref 512] [] []) ok_X14_follow rfl q_cn ?_
    obtain ⟨r3, hr3, hf⟩ := q_bd hf
    refine q_kV (M2 := m_X14_leadsTo) (As := [.int x2, .int x3]) (b := 512) (v2 := some (.int r3)) ok_X14_follow ok_X14_leadsTo cv_X14_leadsTo (ct_X14_leadsTo_512 (d := 1) (Nat.le_refl _) hr3) rfl rfl (Or.inl rfl) rfl rfl rfl rfl (Nat.le_trans (Nat.le_of_ble_eq_true rfl) hd) (Nat.le_of_ble_eq_true rfl) (Nat.le_of_ble_eq_true rfl) (Nat.le_of_ble_eq_true rfl) (fun x hx => absurd hx List.not_mem_nil) (q_nmL0 _) (q_nmS0 _) rfl (pos' := 9) (st' := [.int r3]) (lI' := []) (lE' := []) rfl rfl rfl rfl ?_
    refine q_blf 1 [] (a := q_kc (t, r, m, z, N, ext, rx, L) I E 13 [some (.ref 512), some (.int x1), some (.int x2), some (.int x3)] [] [] []) (b := q_kc (t, r, m, z, N, ext, rx, L) I E 11 [some (.ref 512), some (.int x1), some (.int x2), some (.int x3)] [] [] []) (P := ¬ r3 = (-1 : Int32)) ok_X14_follow rfl q_cn (fun h4 => ?_) (fun h4 => ?_)
    · have hf := q_ip h4 hf
      refine q_blk 6 [] (c' := q_kc (t, r, m, z, N, ext, rx, L) I E 19 [some (.ref 512), some (.int x1), some (.int x2), some (.int x3)] [.int x3, .int x2, .ref 512, .int x1, .ref 513] [] []) ok_X14_follow rfl q_cn ?_
      obtain ⟨r5, hr5, hf⟩ := q_bd hf
      refine q_kV (M2 := m_X14_leadsTo) (As := [.int x2, .int x3]) (b := 512) (v2 := some (.int r5)) ok_X14_follow ok_X14_leadsTo cv_X14_leadsTo (ct_X14_leadsTo_512 (d := 1) (Nat.le_refl _) hr5) rfl rfl (Or.inl rfl) rfl rfl rfl rfl (Nat.le_trans (Nat.le_of_ble_eq_true rfl) hd) (Nat.le_of_ble_eq_true rfl) (Nat.le_of_ble_eq_true rfl) (Nat.le_of_ble_eq_true rfl) (fun x hx => absurd hx List.not_mem_nil) (q_nmL0 _) (q_nmS0 _) rfl (pos' := 20) (st' := [.int r5, .int x1, .ref 513]) (lI' := []) (lE' := []) rfl rfl rfl rfl ?_
      obtain ⟨j6, hj6, hf⟩ := q_bd hf
      refine q_blk 2 [j6] (c' := q_kc (t, r, m, z, N, ext, rx, L) I E 22 [some (.ref 512), some (.int x1), some (.int x2), some (.int x3)] [.int (1 : Int32)] [(513, (q_up (I 513) j6 r5))] []) ok_X14_follow rfl (q_cc hj6 q_cn) ?_
      cases hf
      exact q_kri ok_X14_follow rfl rfl rfl (Nat.le_of_ble_eq_true rfl) (Nat.le_of_ble_eq_true rfl) ⟨rfl, q_hpe (q_fin [513] rfl) (q_fin [] rfl)⟩
    · have hf := q_in h4 hf
      refine q_blk 1 [] (c' := q_kc (t, r, m, z, N, ext, rx, L) I E 12 [some (.ref 512), some (.int x1), some (.int x2), some (.int x3)] [.int (0 : Int32)] [] []) ok_X14_follow rfl q_cn ?_
      cases hf
      exact q_kri ok_X14_follow rfl rfl rfl (Nat.le_of_ble_eq_true rfl) (Nat.le_of_ble_eq_true rfl) ⟨rfl, q_hpe (q_fin [513] rfl) (q_fin [] rfl)⟩
set_option maxHeartbeats 4000000 in
theorem ct_X15_follow_492 {g : q_G} {t : Nat} {r : Nat} {m : Nat} {z : Nat} {N : Nat} {ext : Nat → q_Sh} {rx : Nat → Nat → Option Nat} {L : Nat → Nat → Int64} {d : Nat} (hd : 4 ≤ d)  {I : Nat → Nat → Int32} {E : Nat → Nat → Option Nat} {x1 : Int32} {x2 : Int32} {x3 : Int32} {r0 : Int32 × (Nat → Int32) × (Nat → Int32)} (hf : f_X15_follow (I 492) (I 499) (I 513) (I 515) (I 517) (I 519) x1 x2 x3 = some r0) : q_Ct g m_X15_follow d 0 0 [] [.ref 492, .int x1, .int x2, .int x3] (q_hp (t, r, m, z, N, ext, rx, L) I E) (fun o h' => o = .inl (some (.int r0.1)) ∧ h' = q_hp (t, r, m, z, N, ext, rx, L) (q_ws I [(492, r0.2.1), (513, r0.2.2)]) (q_ws E [])) := by
  rw [f_X15_follow] at hf
  refine q_Ct_of ok_X15_follow (Nat.le_of_ble_eq_true rfl) ?_ _ rfl rfl
  change q_J g m_X15_follow d 0 0 _ [] _ 0 0 (q_kc (t, r, m, z, N, ext, rx, L) I E 0 [some (.ref 492), some (.int x1), some (.int x2), some (.int x3)] [] [] [])
  refine q_blk 5 [] (c' := q_kc (t, r, m, z, N, ext, rx, L) I E 5 [some (.ref 492), some (.int x1), some (.int x2), some (.int x3)] [.int x1, .ref 492] [(492, (q_up (I 492) 0 (0 : Int32)))] []) ok_X15_follow rfl q_cn ?_
  obtain ⟨r1, hr1, hf⟩ := q_bd hf
  refine q_kV (M2 := m_X15_isHook) (As := [.int x1]) (b := 492) (v2 := some (.int (q_bz r1))) ok_X15_follow ok_X15_isHook cv_X15_isHook (ct_X15_isHook_492 (d := 2) (Nat.le_refl _) hr1) rfl rfl (Or.inl rfl) rfl rfl rfl rfl (Nat.le_trans (Nat.le_of_ble_eq_true rfl) hd) (Nat.le_of_ble_eq_true rfl) (Nat.le_of_ble_eq_true rfl) (Nat.le_of_ble_eq_true rfl) (fun x hx => absurd hx List.not_mem_nil) (q_nmL0 _) (q_nmS0 _) rfl (pos' := 6) (st' := [.int (q_bz r1)]) (lI' := [(492, (q_up (I 492) 0 (0 : Int32)))]) (lE' := []) rfl rfl rfl rfl ?_
  refine q_blf 0 [] (a := q_kc (t, r, m, z, N, ext, rx, L) I E 11 [some (.ref 492), some (.int x1), some (.int x2), some (.int x3)] [] [(492, (q_up (I 492) 0 (0 : Int32)))] []) (b := q_kc (t, r, m, z, N, ext, rx, L) I E 7 [some (.ref 492), some (.int x1), some (.int x2), some (.int x3)] [] [(492, (q_up (I 492) 0 (0 : Int32)))] []) (P := (q_bz r1) = 0) ok_X15_follow rfl q_cn (fun h2 => ?_) (fun h2 => ?_)
  · have hf := q_ip h2 hf
    refine q_blk 2 [] (c' := q_kc (t, r, m, z, N, ext, rx, L) I E 13 [some (.ref 492), some (.int x1), some (.int x2), some (.int x3)] [.int (1 : Int32), .ref 492] [(492, (q_up (I 492) 0 (0 : Int32)))] []) ok_X15_follow rfl q_cn ?_
    obtain ⟨r3, hr3, hf⟩ := q_bd hf
    refine q_kV (M2 := m_X15_no) (As := [.int (1 : Int32)]) (b := 492) (v2 := some (.int r3.1)) ok_X15_follow ok_X15_no cv_X15_no (ct_X15_no_492 (d := 1) (Nat.le_refl _) hr3) rfl rfl (Or.inl rfl) rfl rfl rfl rfl (Nat.le_trans (Nat.le_of_ble_eq_true rfl) hd) (Nat.le_of_ble_eq_true rfl) (Nat.le_of_ble_eq_true rfl) (Nat.le_of_ble_eq_true rfl) (fun x hx => absurd hx List.not_mem_nil) (q_nmL0 _) (q_nmS0 _) rfl (pos' := 14) (st' := [.int r3.1]) (lI' := [(492, r3.2)]) (lE' := []) rfl rfl rfl rfl ?_
    cases hf
    exact q_kri ok_X15_follow rfl rfl rfl (Nat.le_of_ble_eq_true rfl) (Nat.le_of_ble_eq_true rfl) ⟨rfl, q_hpe (q_fin [492, 513] rfl) (q_fin [] rfl)⟩
  · have hf := q_in h2 hf
    refine q_blk 2 [] (c' := q_kc (t, r, m, z, N, ext, rx, L) I E 9 [some (.ref 492), some (.int x1), some (.int x2), some (.int x3)] [.int x2, .ref 492] [(492, (q_up (I 492) 0 (0 : Int32)))] []) ok_X15_follow rfl q_cn ?_
    obtain ⟨r4, hr4, hf⟩ := q_bd hf
    refine q_kV (M2 := m_X15_isHook) (As := [.int x2]) (b := 492) (v2 := some (.int (q_bz r4))) ok_X15_follow ok_X15_isHook cv_X15_isHook (ct_X15_isHook_492 (d := 2) (Nat.le_refl _) hr4) rfl rfl (Or.inl rfl) rfl rfl rfl rfl (Nat.le_trans (Nat.le_of_ble_eq_true rfl) hd) (Nat.le_of_ble_eq_true rfl) (Nat.le_of_ble_eq_true rfl) (Nat.le_of_ble_eq_true rfl) (fun x hx => absurd hx List.not_mem_nil) (q_nmL0 _) (q_nmS0 _) rfl (pos' := 10) (st' := [.int (q_bz r4)]) (lI' := [(492, (q_up (I 492) 0 (0 : Int32)))]) (lE' := []) rfl rfl rfl rfl ?_
    refine q_blf 0 [] (a := q_kc (t, r, m, z, N, ext, rx, L) I E 15 [some (.ref 492), some (.int x1), some (.int x2), some (.int x3)] [] [(492, (q_up (I 492) 0 (0 : Int32)))] []) (b := q_kc (t, r, m, z, N, ext, rx, L) I E 11 [some (.ref 492), some (.int x1), some (.int x2), some (.int x3)] [] [(492, (q_up (I 492) 0 (0 : Int32)))] []) (P := ¬ (q_bz r4) = 0) ok_X15_follow rfl q_cn (fun h5 => ?_) (fun h5 => ?_)
    · have hf := q_ip h5 hf
      refine q_blk 5 [] (c' := q_kc (t, r, m, z, N, ext, rx, L) I E 20 [some (.ref 492), some (.int x1), some (.int x2), some (.int x3)] [.int x3, .int x2, .int x1, .ref 512] [(492, (q_up (I 492) 0 (0 : Int32)))] []) ok_X15_follow rfl q_cn ?_
      obtain ⟨r6, hr6, hf⟩ := q_bd hf
      refine q_kV (M2 := m_X14_follow) (As := [.int x1, .int x2, .int x3]) (b := 512) (v2 := some (.int (q_bz r6.1))) ok_X15_follow ok_X14_follow cv_X14_follow (ct_X14_follow_512 (d := 3) (Nat.le_refl _) hr6) rfl rfl (Or.inl rfl) rfl rfl rfl rfl (Nat.le_trans (Nat.le_of_ble_eq_true rfl) hd) (Nat.le_of_ble_eq_true rfl) (Nat.le_of_ble_eq_true rfl) (Nat.le_of_ble_eq_true rfl) (fun x hx => absurd hx List.not_mem_nil) (q_nmL0 _) (q_nmS0 _) rfl (pos' := 21) (st' := [.int (q_bz r6.1)]) (lI' := [(492, (q_up (I 492) 0 (0 : Int32))), (513, r6.2)]) (lE' := []) rfl rfl rfl rfl ?_
      refine q_blf 0 [] (a := q_kc (t, r, m, z, N, ext, rx, L) I E 32 [some (.ref 492), some (.int x1), some (.int x2), some (.int x3)] [] [(492, (q_up (I 492) 0 (0 : Int32))), (513, r6.2)] []) (b := q_kc (t, r, m, z, N, ext, rx, L) I E 22 [some (.ref 492), some (.int x1), some (.int x2), some (.int x3)] [] [(492, (q_up (I 492) 0 (0 : Int32))), (513, r6.2)] []) (P := (q_bz r6.1) = 0) ok_X15_follow rfl q_cn (fun h7 => ?_) (fun h7 => ?_)
      · have hf := q_ip h7 hf
        refine q_blk 2 [] (c' := q_kc (t, r, m, z, N, ext, rx, L) I E 34 [some (.ref 492), some (.int x1), some (.int x2), some (.int x3)] [.int (2 : Int32), .ref 492] [(492, (q_up (I 492) 0 (0 : Int32))), (513, r6.2)] []) ok_X15_follow rfl q_cn ?_
        obtain ⟨r8, hr8, hf⟩ := q_bd hf
        refine q_kV (M2 := m_X15_no) (As := [.int (2 : Int32)]) (b := 492) (v2 := some (.int r8.1)) ok_X15_follow ok_X15_no cv_X15_no (ct_X15_no_492 (d := 1) (Nat.le_refl _) hr8) rfl rfl (Or.inl rfl) rfl rfl rfl rfl (Nat.le_trans (Nat.le_of_ble_eq_true rfl) hd) (Nat.le_of_ble_eq_true rfl) (Nat.le_of_ble_eq_true rfl) (Nat.le_of_ble_eq_true rfl) (fun x hx => absurd hx List.not_mem_nil) (q_nmL0 _) (q_nmS0 _) rfl (pos' := 35) (st' := [.int r8.1]) (lI' := [(492, r8.2), (513, r6.2)]) (lE' := []) rfl rfl rfl rfl ?_
        cases hf
        exact q_kri ok_X15_follow rfl rfl rfl (Nat.le_of_ble_eq_true rfl) (Nat.le_of_ble_eq_true rfl) ⟨rfl, q_hpe (q_fin [492, 513] rfl) (q_fin [] rfl)⟩
      · have hf := q_in h7 hf
        obtain ⟨j9, hj9, hf⟩ := q_bd hf
        obtain ⟨j10, hj10, hf⟩ := q_bd hf
        refine q_blk 10 [j9, j10] (c' := q_kc (t, r, m, z, N, ext, rx, L) I E 35 [some (.ref 492), some (.int x1), some (.int x2), some (.int x3)] [.int ((I 515) j10)] [(492, (q_up (I 492) 0 (0 : Int32))), (513, r6.2)] []) ok_X15_follow rfl (q_cc hj10 (q_cc hj9 q_cn)) ?_
        cases hf
        exact q_kri ok_X15_follow rfl rfl rfl (Nat.le_of_ble_eq_true rfl) (Nat.le_of_ble_eq_true rfl) ⟨rfl, q_hpe (q_fin [492, 513] rfl) (q_fin [] rfl)⟩
    · have hf := q_in h5 hf
      refine q_blk 2 [] (c' := q_kc (t, r, m, z, N, ext, rx, L) I E 13 [some (.ref 492), some (.int x1), some (.int x2), some (.int x3)] [.int (1 : Int32), .ref 492] [(492, (q_up (I 492) 0 (0 : Int32)))] []) ok_X15_follow rfl q_cn ?_
      obtain ⟨r11, hr11, hf⟩ := q_bd hf
      refine q_kV (M2 := m_X15_no) (As := [.int (1 : Int32)]) (b := 492) (v2 := some (.int r11.1)) ok_X15_follow ok_X15_no cv_X15_no (ct_X15_no_492 (d := 1) (Nat.le_refl _) hr11) rfl rfl (Or.inl rfl) rfl rfl rfl rfl (Nat.le_trans (Nat.le_of_ble_eq_true rfl) hd) (Nat.le_of_ble_eq_true rfl) (Nat.le_of_ble_eq_true rfl) (Nat.le_of_ble_eq_true rfl) (fun x hx => absurd hx List.not_mem_nil) (q_nmL0 _) (q_nmS0 _) rfl (pos' := 14) (st' := [.int r11.1]) (lI' := [(492, r11.2)]) (lE' := []) rfl rfl rfl rfl ?_
      cases hf
      exact q_kri ok_X15_follow rfl rfl rfl (Nat.le_of_ble_eq_true rfl) (Nat.le_of_ble_eq_true rfl) ⟨rfl, q_hpe (q_fin [492, 513] rfl) (q_fin [] rfl)⟩
set_option maxHeartbeats 4000000 in
theorem ct_X14_drop_512 {g : q_G} {t : Nat} {r : Nat} {m : Nat} {z : Nat} {N : Nat} {ext : Nat → q_Sh} {rx : Nat → Nat → Option Nat} {L : Nat → Nat → Int64} {d : Nat} (hd : 1 ≤ d)  {I : Nat → Nat → Int32} {E : Nat → Nat → Option Nat} {x1 : Int32} {r0 : Bool × (Nat → Int32)} (hf : f_X14_drop (I 513) x1 = some r0) : q_Ct g m_X14_drop d 0 0 [] [.ref 512, .int x1] (q_hp (t, r, m, z, N, ext, rx, L) I E) (fun o h' => o = .inl (some (.int (q_bz r0.1))) ∧ h' = q_hp (t, r, m, z, N, ext, rx, L) (q_ws I [(513, r0.2)]) (q_ws E [])) := by
  rw [f_X14_drop] at hf
  refine q_Ct_of ok_X14_drop (Nat.le_of_ble_eq_true rfl) ?_ _ rfl rfl
  change q_J g m_X14_drop d 0 0 _ [] _ 0 0 (q_kc (t, r, m, z, N, ext, rx, L) I E 0 [some (.ref 512), some (.int x1)] [] [] [])
  obtain ⟨j1, hj1, hf⟩ := q_bd hf
  refine q_blf 5 [j1] (a := q_kc (t, r, m, z, N, ext, rx, L) I E 8 [some (.ref 512), some (.int x1)] [] [] []) (b := q_kc (t, r, m, z, N, ext, rx, L) I E 6 [some (.ref 512), some (.int x1)] [] [] []) (P := ¬ ((I 513) j1) = (-1 : Int32)) ok_X14_drop rfl (q_cc hj1 q_cn) (fun h2 => ?_) (fun h2 => ?_)
  · have hf := q_ip h2 hf
    obtain ⟨j3, hj3, hf⟩ := q_bd hf
    refine q_blk 6 [j3] (c' := q_kc (t, r, m, z, N, ext, rx, L) I E 14 [some (.ref 512), some (.int x1)] [.int (1 : Int32)] [(513, (q_up (I 513) j3 (-1 : Int32)))] []) ok_X14_drop rfl (q_cc hj3 q_cn) ?_
    cases hf
    exact q_kri ok_X14_drop rfl rfl rfl (Nat.le_of_ble_eq_true rfl) (Nat.le_of_ble_eq_true rfl) ⟨rfl, q_hpe (q_fin [513] rfl) (q_fin [] rfl)⟩
  · have hf := q_in h2 hf
    refine q_blk 1 [] (c' := q_kc (t, r, m, z, N, ext, rx, L) I E 7 [some (.ref 512), some (.int x1)] [.int (0 : Int32)] [] []) ok_X14_drop rfl q_cn ?_
    cases hf
    exact q_kri ok_X14_drop rfl rfl rfl (Nat.le_of_ble_eq_true rfl) (Nat.le_of_ble_eq_true rfl) ⟨rfl, q_hpe (q_fin [513] rfl) (q_fin [] rfl)⟩
set_option maxHeartbeats 4000000 in
theorem ct_X15_drop_492 {g : q_G} {t : Nat} {r : Nat} {m : Nat} {z : Nat} {N : Nat} {ext : Nat → q_Sh} {rx : Nat → Nat → Option Nat} {L : Nat → Nat → Int64} {d : Nat} (hd : 4 ≤ d)  {I : Nat → Nat → Int32} {E : Nat → Nat → Option Nat} {x1 : Int32} {r0 : Int32 × (Nat → Int32) × (Nat → Int32) × (Nat → Int32) × (Nat → Int32)} (hf : f_X15_drop (I 492) (I 499) (I 510) (I 511) (I 513) (I 514) (I 517) (I 519) x1 = some r0) : q_Ct g m_X15_drop d 0 0 [] [.ref 492, .int x1] (q_hp (t, r, m, z, N, ext, rx, L) I E) (fun o h' => o = .inl (some (.int r0.1)) ∧ h' = q_hp (t, r, m, z, N, ext, rx, L) (q_ws I [(492, r0.2.1), (510, r0.2.2.1), (511, r0.2.2.2.1), (513, r0.2.2.2.2)]) (q_ws E [])) := by
  rw [f_X15_drop] at hf
  refine q_Ct_of ok_X15_drop (Nat.le_of_ble_eq_true rfl) ?_ _ rfl rfl
  change q_J g m_X15_drop d 0 0 _ [] _ 0 0 (q_kc (t, r, m, z, N, ext, rx, L) I E 0 [some (.ref 492), some (.int x1)] [] [] [])
  refine q_blk 5 [] (c' := q_kc (t, r, m, z, N, ext, rx, L) I E 5 [some (.ref 492), some (.int x1)] [.int x1, .ref 492] [(492, (q_up (I 492) 0 (0 : Int32)))] []) ok_X15_drop rfl q_cn ?_
  obtain ⟨r1, hr1, hf⟩ := q_bd hf
  refine q_kV (M2 := m_X15_isHook) (As := [.int x1]) (b := 492) (v2 := some (.int (q_bz r1))) ok_X15_drop ok_X15_isHook cv_X15_isHook (ct_X15_isHook_492 (d := 2) (Nat.le_refl _) hr1) rfl rfl (Or.inl rfl) rfl rfl rfl rfl (Nat.le_trans (Nat.le_of_ble_eq_true rfl) hd) (Nat.le_of_ble_eq_true rfl) (Nat.le_of_ble_eq_true rfl) (Nat.le_of_ble_eq_true rfl) (fun x hx => absurd hx List.not_mem_nil) (q_nmL0 _) (q_nmS0 _) rfl (pos' := 6) (st' := [.int (q_bz r1)]) (lI' := [(492, (q_up (I 492) 0 (0 : Int32)))]) (lE' := []) rfl rfl rfl rfl ?_
  refine q_blf 0 [] (a := q_kc (t, r, m, z, N, ext, rx, L) I E 11 [some (.ref 492), some (.int x1)] [] [(492, (q_up (I 492) 0 (0 : Int32)))] []) (b := q_kc (t, r, m, z, N, ext, rx, L) I E 7 [some (.ref 492), some (.int x1)] [] [(492, (q_up (I 492) 0 (0 : Int32)))] []) (P := ¬ (q_bz r1) = 0) ok_X15_drop rfl q_cn (fun h2 => ?_) (fun h2 => ?_)
  · have hf := q_ip h2 hf
    refine q_blk 3 [] (c' := q_kc (t, r, m, z, N, ext, rx, L) I E 14 [some (.ref 492), some (.int x1)] [.int x1, .ref 512] [(492, (q_up (I 492) 0 (0 : Int32)))] []) ok_X15_drop rfl q_cn ?_
    obtain ⟨r3, hr3, hf⟩ := q_bd hf
    refine q_kV (M2 := m_X14_drop) (As := [.int x1]) (b := 512) (v2 := some (.int (q_bz r3.1))) ok_X15_drop ok_X14_drop cv_X14_drop (ct_X14_drop_512 (d := 1) (Nat.le_refl _) hr3) rfl rfl (Or.inl rfl) rfl rfl rfl rfl (Nat.le_trans (Nat.le_of_ble_eq_true rfl) hd) (Nat.le_of_ble_eq_true rfl) (Nat.le_of_ble_eq_true rfl) (Nat.le_of_ble_eq_true rfl) (fun x hx => absurd hx List.not_mem_nil) (q_nmL0 _) (q_nmS0 _) rfl (pos' := 15) (st' := [.int (q_bz r3.1)]) (lI' := [(492, (q_up (I 492) 0 (0 : Int32))), (513, r3.2)]) (lE' := []) rfl rfl rfl rfl ?_
    refine q_blf 0 [] (a := q_kc (t, r, m, z, N, ext, rx, L) I E 20 [some (.ref 492), some (.int x1)] [] [(492, (q_up (I 492) 0 (0 : Int32))), (513, r3.2)] []) (b := q_kc (t, r, m, z, N, ext, rx, L) I E 16 [some (.ref 492), some (.int x1)] [] [(492, (q_up (I 492) 0 (0 : Int32))), (513, r3.2)] []) (P := (q_bz r3.1) = 0) ok_X15_drop rfl q_cn (fun h4 => ?_) (fun h4 => ?_)
    · have hf := q_ip h4 hf
      refine q_blk 2 [] (c' := q_kc (t, r, m, z, N, ext, rx, L) I E 22 [some (.ref 492), some (.int x1)] [.int (2 : Int32), .ref 492] [(492, (q_up (I 492) 0 (0 : Int32))), (513, r3.2)] []) ok_X15_drop rfl q_cn ?_
      obtain ⟨r5, hr5, hf⟩ := q_bd hf
      refine q_kV (M2 := m_X15_no) (As := [.int (2 : Int32)]) (b := 492) (v2 := some (.int r5.1)) ok_X15_drop ok_X15_no cv_X15_no (ct_X15_no_492 (d := 1) (Nat.le_refl _) hr5) rfl rfl (Or.inl rfl) rfl rfl rfl rfl (Nat.le_trans (Nat.le_of_ble_eq_true rfl) hd) (Nat.le_of_ble_eq_true rfl) (Nat.le_of_ble_eq_true rfl) (Nat.le_of_ble_eq_true rfl) (fun x hx => absurd hx List.not_mem_nil) (q_nmL0 _) (q_nmS0 _) rfl (pos' := 23) (st' := [.int r5.1]) (lI' := [(492, r5.2), (513, r3.2)]) (lE' := []) rfl rfl rfl rfl ?_
      cases hf
      exact q_kri ok_X15_drop rfl rfl rfl (Nat.le_of_ble_eq_true rfl) (Nat.le_of_ble_eq_true rfl) ⟨rfl, q_hpe (q_fin [492, 510, 511, 513] rfl) (q_fin [] rfl)⟩
    · have hf := q_in h4 hf
      refine q_blk 2 [] (c' := q_kc (t, r, m, z, N, ext, rx, L) I E 18 [some (.ref 492), some (.int x1)] [.ref 512] [(492, (q_up (I 492) 0 (0 : Int32))), (513, r3.2)] []) ok_X15_drop rfl q_cn ?_
      obtain ⟨r6, hr6, hf⟩ := q_bd hf
      refine q_kV (M2 := m_X14_useless) (As := []) (b := 512) (v2 := some (.int r6.1)) ok_X15_drop ok_X14_useless cv_X14_useless (ct_X14_useless_512 (d := 3) (Nat.le_refl _) hr6) rfl rfl (Or.inl rfl) rfl rfl rfl rfl (Nat.le_trans (Nat.le_of_ble_eq_true rfl) hd) (Nat.le_of_ble_eq_true rfl) (Nat.le_of_ble_eq_true rfl) (Nat.le_of_ble_eq_true rfl) (fun x hx => absurd hx List.not_mem_nil) (q_nmL0 _) (q_nmS0 _) rfl (pos' := 19) (st' := [.int r6.1]) (lI' := [(492, r6.2.1), (510, r6.2.2.1), (511, r6.2.2.2), (513, r3.2)]) (lE' := []) rfl rfl rfl rfl ?_
      refine q_blk 1 [] (c' := q_kc (t, r, m, z, N, ext, rx, L) I E 23 [some (.ref 492), some (.int x1)] [.int r6.1] [(492, r6.2.1), (510, r6.2.2.1), (511, r6.2.2.2), (513, r3.2)] []) ok_X15_drop rfl q_cn ?_
      cases hf
      exact q_kri ok_X15_drop rfl rfl rfl (Nat.le_of_ble_eq_true rfl) (Nat.le_of_ble_eq_true rfl) ⟨rfl, q_hpe (q_fin [492, 510, 511, 513] rfl) (q_fin [] rfl)⟩
  · have hf := q_in h2 hf
    refine q_blk 2 [] (c' := q_kc (t, r, m, z, N, ext, rx, L) I E 9 [some (.ref 492), some (.int x1)] [.int (1 : Int32), .ref 492] [(492, (q_up (I 492) 0 (0 : Int32)))] []) ok_X15_drop rfl q_cn ?_
    obtain ⟨r7, hr7, hf⟩ := q_bd hf
    refine q_kV (M2 := m_X15_no) (As := [.int (1 : Int32)]) (b := 492) (v2 := some (.int r7.1)) ok_X15_drop ok_X15_no cv_X15_no (ct_X15_no_492 (d := 1) (Nat.le_refl _) hr7) rfl rfl (Or.inl rfl) rfl rfl rfl rfl (Nat.le_trans (Nat.le_of_ble_eq_true rfl) hd) (Nat.le_of_ble_eq_true rfl) (Nat.le_of_ble_eq_true rfl) (Nat.le_of_ble_eq_true rfl) (fun x hx => absurd hx List.not_mem_nil) (q_nmL0 _) (q_nmS0 _) rfl (pos' := 10) (st' := [.int r7.1]) (lI' := [(492, r7.2)]) (lE' := []) rfl rfl rfl rfl ?_
    cases hf
    exact q_kri ok_X15_drop rfl rfl rfl (Nat.le_of_ble_eq_true rfl) (Nat.le_of_ble_eq_true rfl) ⟨rfl, q_hpe (q_fin [492, 510, 511, 513] rfl) (q_fin [] rfl)⟩
set_option maxHeartbeats 4000000 in
theorem ct_X15_copyNow_492 {g : q_G} {t : Nat} {r : Nat} {m : Nat} {ext : Nat → q_Sh} {rx : Nat → Nat → Option Nat} {L : Nat → Nat → Int64} {d : Nat} (hd : 7 ≤ d)  {I : Nat → Nat → Int32} {E : Nat → Nat → Option Nat} {r0 : Int32 × (Nat → Int32) × (Nat → Int32) × (Nat → Int32) × (Nat → Int32) × (Nat → Int32) × (Nat → Int32) × (Nat → Int32)} (hf : f_X15_copyNow (I 492) (I 499) (I 510) (I 511) (I 512) (I 513) (I 514) (I 515) (I 516) (I 517) (I 518) (I 519) = some r0) : q_Ct g m_X15_copyNow d 1 136 [] [.ref 492] (q_hp (t, r, m, 499, 529, ext, rx, L) I E) (fun o h' => o = .inl (some (.int r0.1)) ∧ h' = q_hp (t, r, m, 499, 529, ext, rx, L) (q_ws I [(492, r0.2.1), (510, r0.2.2.1), (511, r0.2.2.2.1), (512, r0.2.2.2.2.1), (514, r0.2.2.2.2.2.1), (515, r0.2.2.2.2.2.2.1), (518, r0.2.2.2.2.2.2.2)]) (q_ws E [])) := by
  rw [f_X15_copyNow] at hf
  refine q_Ct_of ok_X15_copyNow (Nat.le_of_ble_eq_true rfl) ?_ _ rfl rfl
  change q_J g m_X15_copyNow d 1 136 _ [] _ 0 0 (q_kc (t, r, m, 499, 529, ext, rx, L) I E 0 [some (.ref 492)] [] [] [])
  refine q_blk 3 [] (c' := q_kc (t, r, m, 499, 529, ext, rx, L) I E 3 [some (.ref 492)] [.ref 512, .ref 492] [] []) ok_X15_copyNow rfl q_cn ?_
  obtain ⟨r1, hr1, hf⟩ := q_bd hf
  refine q_kV (M2 := m_X14_copyAll) (As := []) (b := 512) (v2 := some (.int r1.1)) ok_X15_copyNow ok_X14_copyAll cv_X14_copyAll (ct_X14_copyAll_512 (d := 6) (Nat.le_refl _) hr1) rfl rfl (Or.inl rfl) rfl rfl rfl rfl (Nat.le_trans (Nat.le_of_ble_eq_true rfl) hd) (Nat.le_of_ble_eq_true rfl) (Nat.le_of_ble_eq_true rfl) (Nat.le_of_ble_eq_true rfl) (fun x hx => absurd hx List.not_mem_nil) (q_nmL0 _) (q_nmS0 _) rfl (pos' := 4) (st' := [.int r1.1, .ref 492]) (lI' := [(492, r1.2.1), (510, r1.2.2.1), (511, r1.2.2.2.1), (512, r1.2.2.2.2.1), (514, r1.2.2.2.2.2.1), (515, r1.2.2.2.2.2.2.1), (518, r1.2.2.2.2.2.2.2)]) (lE' := []) rfl rfl rfl rfl ?_
  obtain ⟨r2, hr2, hf⟩ := q_bd hf
  refine q_kV (M2 := m_X15_ok) (As := [.int r1.1]) (b := 492) (v2 := some (.int r2.1)) ok_X15_copyNow ok_X15_ok cv_X15_ok (ct_X15_ok_492 (d := 1) (Nat.le_refl _) hr2) rfl rfl (Or.inl rfl) rfl rfl rfl rfl (Nat.le_trans (Nat.le_of_ble_eq_true rfl) hd) (Nat.le_of_ble_eq_true rfl) (Nat.le_of_ble_eq_true rfl) (Nat.le_of_ble_eq_true rfl) (fun x hx => absurd hx List.not_mem_nil) (q_nmL0 _) (q_nmS0 _) rfl (pos' := 5) (st' := [.int r2.1]) (lI' := [(492, r2.2), (510, r1.2.2.1), (511, r1.2.2.2.1), (512, r1.2.2.2.2.1), (514, r1.2.2.2.2.2.1), (515, r1.2.2.2.2.2.2.1), (518, r1.2.2.2.2.2.2.2)]) (lE' := []) rfl rfl rfl rfl ?_
  cases hf
  exact q_kri ok_X15_copyNow rfl rfl rfl (Nat.le_of_ble_eq_true rfl) (Nat.le_of_ble_eq_true rfl) ⟨rfl, q_hpe (q_fin [492, 510, 511, 512, 514, 515, 518] rfl) (q_fin [] rfl)⟩
set_option maxHeartbeats 4000000 in
theorem lp_X14_sweep_L32_512 {g : q_G} {d mc ms : Nat} {h0 : q_H} {Q : (Option Value ⊕ String) → q_H → Prop} {k n : Nat} {t : Nat} {r : Nat} {m : Nat} {z : Nat} {N : Nat} {ext : Nat → q_Sh} {rx : Nat → Nat → Option Nat} {L : Nat → Nat → Int64} (hd : 3 ≤ d) (hk : k ≤ mc) (hn : n ≤ ms)  {v1 : Int32} : ∀ (fu : Nat) {I : Nat → Nat → Int32} {E : Nat → Nat → Option Nat} {v2 : Int32} {r0 : (Nat → Int32)} (hf : f_X14_sweep_L32 (I 514) fu (I 519) v2 = some r0) (hK0 : q_J g m_X14_sweep d mc ms h0 [] Q k n (q_kc (t, r, m, z, N, ext, rx, L) I E 56 [some (.ref 512), some (.int v1), none] [] [(519, r0)] [])), q_J g m_X14_sweep d mc ms h0 [] Q k n (32, [some (.ref 512), some (.int v1), some (.int v2)], [], q_hp (t, r, m, z, N, ext, rx, L) I E) := by
  intro fu
  induction fu with
  | zero =>
    intro I E v2 r0 hf hK0
    rw [f_X14_sweep_L32] at hf
    cases hf
  | succ fu ih =>
    intro I E v2 r0 hf hK0
    rw [f_X14_sweep_L32] at hf
    change q_J g m_X14_sweep d mc ms h0 [] Q k n (q_kc (t, r, m, z, N, ext, rx, L) I E 32 [some (.ref 512), some (.int v1), some (.int v2)] [] [] [])
    refine q_blf 2 [] (a := q_kc (t, r, m, z, N, ext, rx, L) I E 56 [some (.ref 512), some (.int v1), some (.int v2)] [] [] []) (b := q_kc (t, r, m, z, N, ext, rx, L) I E 35 [some (.ref 512), some (.int v1), some (.int v2)] [] [] []) (P := (408 : Int32) ≤ v2) ok_X14_sweep rfl q_cn (fun h1 => ?_) (fun h1 => ?_)
    · have hf := q_ip h1 hf
      refine q_less (ls' := [some (.ref 512), some (.int v1), none]) (q_sb2 (q_sb2 (q_sb1 q_sb0))) ?_
      cases hf
      exact q_Jpad [519] [] rfl rfl hK0
    · have hf := q_in h1 hf
      obtain ⟨j2, hj2, hf⟩ := q_bd hf
      refine q_blf 5 [j2] (a := q_kc (t, r, m, z, N, ext, rx, L) I E 54 [some (.ref 512), some (.int v1), some (.int v2)] [] [] []) (b := q_kc (t, r, m, z, N, ext, rx, L) I E 41 [some (.ref 512), some (.int v1), some (.int v2)] [] [] []) (P := ((I 519) j2) = (-1 : Int32)) ok_X14_sweep rfl (q_cc hj2 q_cn) (fun h3 => ?_) (fun h3 => ?_)
      · have hf := q_ip h3 hf
        refine q_blk 2 [] (c' := q_kc (t, r, m, z, N, ext, rx, L) I E 32 [some (.ref 512), some (.int v1), some (.int (v2 + 1))] [] [] []) ok_X14_sweep rfl q_cn ?_
        exact ih (I := q_ws I []) (E := q_ws E []) hf (q_Jmrg rfl rfl hK0)
      · have hf := q_in h3 hf
        obtain ⟨j4, hj4, hf⟩ := q_bd hf
        obtain ⟨j5, hj5, hf⟩ := q_bd hf
        refine q_blf 7 [j4, j5] (a := q_kc (t, r, m, z, N, ext, rx, L) I E 54 [some (.ref 512), some (.int v1), some (.int v2)] [] [] []) (b := q_kc (t, r, m, z, N, ext, rx, L) I E 49 [some (.ref 512), some (.int v1), some (.int v2)] [] [] []) (P := ¬ ((I 514) j5) = 0) ok_X14_sweep rfl (q_cc hj5 (q_cc hj4 q_cn)) (fun h6 => ?_) (fun h6 => ?_)
        · have hf := q_ip h6 hf
          refine q_blk 2 [] (c' := q_kc (t, r, m, z, N, ext, rx, L) I E 32 [some (.ref 512), some (.int v1), some (.int (v2 + 1))] [] [] []) ok_X14_sweep rfl q_cn ?_
          exact ih (I := q_ws I []) (E := q_ws E []) hf (q_Jmrg rfl rfl hK0)
        · have hf := q_in h6 hf
          obtain ⟨j7, hj7, hf⟩ := q_bd hf
          refine q_blk 7 [j7] (c' := q_kc (t, r, m, z, N, ext, rx, L) I E 32 [some (.ref 512), some (.int v1), some (.int (v2 + 1))] [] [(519, (q_up (I 519) j7 (-1 : Int32)))] []) ok_X14_sweep rfl (q_cc hj7 q_cn) ?_
          exact ih (I := q_ws I [(519, (q_up (I 519) j7 (-1 : Int32)))]) (E := q_ws E []) hf (q_Jmrg rfl rfl hK0)
set_option maxHeartbeats 4000000 in
theorem lp_X14_sweep_L6_512 {g : q_G} {d mc ms : Nat} {h0 : q_H} {Q : (Option Value ⊕ String) → q_H → Prop} {k n : Nat} {t : Nat} {r : Nat} {m : Nat} {z : Nat} {N : Nat} {ext : Nat → q_Sh} {rx : Nat → Nat → Option Nat} {L : Nat → Nat → Int64} (hd : 3 ≤ d) (hk : k ≤ mc) (hn : n ≤ ms)  : ∀ (fu : Nat) {I : Nat → Nat → Int32} {E : Nat → Nat → Option Nat} {v1 : Int32} {v2 : Int32} {r0 : Int32 × (Nat → Int32)} (hf : f_X14_sweep_L6 (I 511) fu (I 514) v1 v2 = some r0) (hK0 : q_J g m_X14_sweep d mc ms h0 [] Q k n (q_kc (t, r, m, z, N, ext, rx, L) I E 30 [some (.ref 512), some (.int r0.1), none] [] [(514, r0.2)] [])), q_J g m_X14_sweep d mc ms h0 [] Q k n (6, [some (.ref 512), some (.int v1), some (.int v2)], [], q_hp (t, r, m, z, N, ext, rx, L) I E) := by
  intro fu
  induction fu with
  | zero =>
    intro I E v1 v2 r0 hf hK0
    rw [f_X14_sweep_L6] at hf
    cases hf
  | succ fu ih =>
    intro I E v1 v2 r0 hf hK0
    rw [f_X14_sweep_L6] at hf
    change q_J g m_X14_sweep d mc ms h0 [] Q k n (q_kc (t, r, m, z, N, ext, rx, L) I E 6 [some (.ref 512), some (.int v1), some (.int v2)] [] [] [])
    refine q_blf 2 [] (a := q_kc (t, r, m, z, N, ext, rx, L) I E 30 [some (.ref 512), some (.int v1), some (.int v2)] [] [] []) (b := q_kc (t, r, m, z, N, ext, rx, L) I E 9 [some (.ref 512), some (.int v1), some (.int v2)] [] [] []) (P := (136 : Int32) ≤ v2) ok_X14_sweep rfl q_cn (fun h8 => ?_) (fun h8 => ?_)
    · have hf := q_ip h8 hf
      refine q_less (ls' := [some (.ref 512), some (.int v1), none]) (q_sb2 (q_sb2 (q_sb1 q_sb0))) ?_
      cases hf
      exact q_Jpad [514] [] rfl rfl hK0
    · have hf := q_in h8 hf
      obtain ⟨j9, hj9, hf⟩ := q_bd hf
      refine q_blf 5 [j9] (a := q_kc (t, r, m, z, N, ext, rx, L) I E 28 [some (.ref 512), some (.int v1), some (.int v2)] [] [] []) (b := q_kc (t, r, m, z, N, ext, rx, L) I E 15 [some (.ref 512), some (.int v1), some (.int v2)] [] [] []) (P := ¬ ((I 514) j9) = (2 : Int32)) ok_X14_sweep rfl (q_cc hj9 q_cn) (fun h10 => ?_) (fun h10 => ?_)
      · have hf := q_ip h10 hf
        refine q_blk 2 [] (c' := q_kc (t, r, m, z, N, ext, rx, L) I E 6 [some (.ref 512), some (.int v1), some (.int (v2 + 1))] [] [] []) ok_X14_sweep rfl q_cn ?_
        exact ih (I := q_ws I []) (E := q_ws E []) hf (q_Jmrg rfl rfl hK0)
      · have hf := q_in h10 hf
        obtain ⟨j11, hj11, hf⟩ := q_bd hf
        refine q_blf 5 [j11] (a := q_kc (t, r, m, z, N, ext, rx, L) I E 22 [some (.ref 512), some (.int v1), some (.int v2)] [] [] []) (b := q_kc (t, r, m, z, N, ext, rx, L) I E 21 [some (.ref 512), some (.int v1), some (.int v2)] [] [] []) (P := ((I 511) j11) = 0) ok_X14_sweep rfl (q_cc hj11 q_cn) (fun h12 => ?_) (fun h12 => ?_)
        · have hf := q_ip h12 hf
          obtain ⟨j13, hj13, hf⟩ := q_bd hf
          refine q_blk 8 [j13] (c' := q_kc (t, r, m, z, N, ext, rx, L) I E 6 [some (.ref 512), some (.int (v1 + 1)), some (.int (v2 + 1))] [] [(514, (q_up (I 514) j13 (0 : Int32)))] []) ok_X14_sweep rfl (q_cc hj13 q_cn) ?_
          exact ih (I := q_ws I [(514, (q_up (I 514) j13 (0 : Int32)))]) (E := q_ws E []) hf (q_Jmrg rfl rfl hK0)
        · have hf := q_in h12 hf
          refine q_blk 3 [] (c' := q_kc (t, r, m, z, N, ext, rx, L) I E 6 [some (.ref 512), some (.int v1), some (.int (v2 + 1))] [] [] []) ok_X14_sweep rfl q_cn ?_
          exact ih (I := q_ws I []) (E := q_ws E []) hf (q_Jmrg rfl rfl hK0)
set_option maxHeartbeats 4000000 in
theorem ct_X14_sweep_512 {g : q_G} {t : Nat} {r : Nat} {m : Nat} {z : Nat} {N : Nat} {ext : Nat → q_Sh} {rx : Nat → Nat → Option Nat} {L : Nat → Nat → Int64} {d : Nat} (hd : 3 ≤ d)  {I : Nat → Nat → Int32} {E : Nat → Nat → Option Nat} {r0 : Int32 × (Nat → Int32) × (Nat → Int32) × (Nat → Int32) × (Nat → Int32) × (Nat → Int32) × (Nat → Int32)} (hf : f_X14_sweep (I 492) (I 499) (I 510) (I 511) (I 512) (I 513) (I 514) (I 517) (I 519) = some r0) : q_Ct g m_X14_sweep d 0 0 [] [.ref 512] (q_hp (t, r, m, z, N, ext, rx, L) I E) (fun o h' => o = .inl (some (.int r0.1)) ∧ h' = q_hp (t, r, m, z, N, ext, rx, L) (q_ws I [(492, r0.2.1), (510, r0.2.2.1), (511, r0.2.2.2.1), (512, r0.2.2.2.2.1), (514, r0.2.2.2.2.2.1), (519, r0.2.2.2.2.2.2)]) (q_ws E [])) := by
  rw [f_X14_sweep] at hf
  refine q_Ct_of ok_X14_sweep (Nat.le_of_ble_eq_true rfl) ?_ _ rfl rfl
  change q_J g m_X14_sweep d 0 0 _ [] _ 0 0 (q_kc (t, r, m, z, N, ext, rx, L) I E 0 [some (.ref 512), none, none] [] [] [])
  refine q_blk 1 [] (c' := q_kc (t, r, m, z, N, ext, rx, L) I E 1 [some (.ref 512), none, none] [.ref 512] [] []) ok_X14_sweep rfl q_cn ?_
  obtain ⟨r14, hr14, hf⟩ := q_bd hf
  refine q_kV (M2 := m_X14_reach) (As := []) (b := 512) (v2 := none) ok_X14_sweep ok_X14_reach cv_X14_reach (ct_X14_reach_512 (d := 2) (Nat.le_refl _) hr14) rfl rfl (Or.inl rfl) rfl rfl rfl rfl (Nat.le_trans (Nat.le_of_ble_eq_true rfl) hd) (Nat.le_of_ble_eq_true rfl) (Nat.le_of_ble_eq_true rfl) (Nat.le_of_ble_eq_true rfl) (fun x hx => absurd hx List.not_mem_nil) (q_nmL0 _) (q_nmS0 _) rfl (pos' := 2) (st' := []) (lI' := [(492, r14.1), (510, r14.2.1), (511, r14.2.2)]) (lE' := []) rfl rfl rfl rfl ?_
  refine q_blk 4 [] (c' := q_kc (t, r, m, z, N, ext, rx, L) I E 6 [some (.ref 512), some (.int (0 : Int32)), some (.int (0 : Int32))] [] [(492, r14.1), (510, r14.2.1), (511, r14.2.2)] []) ok_X14_sweep rfl q_cn ?_
  obtain ⟨r15, hr15, hf⟩ := q_bd hf
  refine lp_X14_sweep_L6_512 (I := q_ws I [(492, r14.1), (510, r14.2.1), (511, r14.2.2)]) (E := q_ws E []) hd (Nat.le_of_ble_eq_true rfl) (Nat.le_of_ble_eq_true rfl) 4096 hr15 ?_
  refine q_Jmrg (lI' := [(492, r14.1), (510, r14.2.1), (511, r14.2.2), (514, r15.2)]) (lE' := []) rfl rfl ?_
  refine q_blk 2 [] (c' := q_kc (t, r, m, z, N, ext, rx, L) I E 32 [some (.ref 512), some (.int r15.1), some (.int (0 : Int32))] [] [(492, r14.1), (510, r14.2.1), (511, r14.2.2), (514, r15.2)] []) ok_X14_sweep rfl q_cn ?_
  obtain ⟨r16, hr16, hf⟩ := q_bd hf
  refine lp_X14_sweep_L32_512 (I := q_ws I [(492, r14.1), (510, r14.2.1), (511, r14.2.2), (514, r15.2)]) (E := q_ws E []) hd (Nat.le_of_ble_eq_true rfl) (Nat.le_of_ble_eq_true rfl) 4096 hr16 ?_
  refine q_Jmrg (lI' := [(492, r14.1), (510, r14.2.1), (511, r14.2.2), (514, r15.2), (519, r16)]) (lE' := []) rfl rfl ?_
  refine q_blk 7 [] (c' := q_kc (t, r, m, z, N, ext, rx, L) I E 63 [some (.ref 512), some (.int r15.1), none] [.int r15.1] [(492, r14.1), (510, r14.2.1), (511, r14.2.2), (512, (q_up (I 512) 5 (((I 512) 5) + r15.1))), (514, r15.2), (519, r16)] []) ok_X14_sweep rfl q_cn ?_
  cases hf
  exact q_kri ok_X14_sweep rfl rfl rfl (Nat.le_of_ble_eq_true rfl) (Nat.le_of_ble_eq_true rfl) ⟨rfl, q_hpe (q_fin [492, 510, 511, 512, 514, 519] rfl) (q_fin [] rfl)⟩
set_option maxHeartbeats 4000000 in
theorem ct_X15_sweepLoft_492 {g : q_G} {t : Nat} {r : Nat} {m : Nat} {z : Nat} {N : Nat} {ext : Nat → q_Sh} {rx : Nat → Nat → Option Nat} {L : Nat → Nat → Int64} {d : Nat} (hd : 4 ≤ d)  {I : Nat → Nat → Int32} {E : Nat → Nat → Option Nat} {r0 : Int32 × (Nat → Int32) × (Nat → Int32) × (Nat → Int32) × (Nat → Int32) × (Nat → Int32) × (Nat → Int32)} (hf : f_X15_sweepLoft (I 492) (I 499) (I 510) (I 511) (I 512) (I 513) (I 514) (I 517) (I 519) = some r0) : q_Ct g m_X15_sweepLoft d 0 0 [] [.ref 492] (q_hp (t, r, m, z, N, ext, rx, L) I E) (fun o h' => o = .inl (some (.int r0.1)) ∧ h' = q_hp (t, r, m, z, N, ext, rx, L) (q_ws I [(492, r0.2.1), (510, r0.2.2.1), (511, r0.2.2.2.1), (512, r0.2.2.2.2.1), (514, r0.2.2.2.2.2.1), (519, r0.2.2.2.2.2.2)]) (q_ws E [])) := by
  rw [f_X15_sweepLoft] at hf
  refine q_Ct_of ok_X15_sweepLoft (Nat.le_of_ble_eq_true rfl) ?_ _ rfl rfl
  change q_J g m_X15_sweepLoft d 0 0 _ [] _ 0 0 (q_kc (t, r, m, z, N, ext, rx, L) I E 0 [some (.ref 492)] [] [] [])
  refine q_blk 3 [] (c' := q_kc (t, r, m, z, N, ext, rx, L) I E 3 [some (.ref 492)] [.ref 512, .ref 492] [] []) ok_X15_sweepLoft rfl q_cn ?_
  obtain ⟨r1, hr1, hf⟩ := q_bd hf
  refine q_kV (M2 := m_X14_sweep) (As := []) (b := 512) (v2 := some (.int r1.1)) ok_X15_sweepLoft ok_X14_sweep cv_X14_sweep (ct_X14_sweep_512 (d := 3) (Nat.le_refl _) hr1) rfl rfl (Or.inl rfl) rfl rfl rfl rfl (Nat.le_trans (Nat.le_of_ble_eq_true rfl) hd) (Nat.le_of_ble_eq_true rfl) (Nat.le_of_ble_eq_true rfl) (Nat.le_of_ble_eq_true rfl) (fun x hx => absurd hx List.not_mem_nil) (q_nmL0 _) (q_nmS0 _) rfl (pos' := 4) (st' := [.int r1.1, .ref 492]) (lI' := [(492, r1.2.1), (510, r1.2.2.1), (511, r1.2.2.2.1), (512, r1.2.2.2.2.1), (514, r1.2.2.2.2.2.1), (519, r1.2.2.2.2.2.2)]) (lE' := []) rfl rfl rfl rfl ?_
  obtain ⟨r2, hr2, hf⟩ := q_bd hf
  refine q_kV (M2 := m_X15_ok) (As := [.int r1.1]) (b := 492) (v2 := some (.int r2.1)) ok_X15_sweepLoft ok_X15_ok cv_X15_ok (ct_X15_ok_492 (d := 1) (Nat.le_refl _) hr2) rfl rfl (Or.inl rfl) rfl rfl rfl rfl (Nat.le_trans (Nat.le_of_ble_eq_true rfl) hd) (Nat.le_of_ble_eq_true rfl) (Nat.le_of_ble_eq_true rfl) (Nat.le_of_ble_eq_true rfl) (fun x hx => absurd hx List.not_mem_nil) (q_nmL0 _) (q_nmS0 _) rfl (pos' := 5) (st' := [.int r2.1]) (lI' := [(492, r2.2), (510, r1.2.2.1), (511, r1.2.2.2.1), (512, r1.2.2.2.2.1), (514, r1.2.2.2.2.2.1), (519, r1.2.2.2.2.2.2)]) (lE' := []) rfl rfl rfl rfl ?_
  cases hf
  exact q_kri ok_X15_sweepLoft rfl rfl rfl (Nat.le_of_ble_eq_true rfl) (Nat.le_of_ble_eq_true rfl) ⟨rfl, q_hpe (q_fin [492, 510, 511, 512, 514, 519] rfl) (q_fin [] rfl)⟩
set_option maxHeartbeats 4000000 in
theorem ct_X15_taken {g : q_G} {t : Nat} {r : Nat} {m : Nat} {z : Nat} {N : Nat} {ext : Nat → q_Sh} {rx : Nat → Nat → Option Nat} {L : Nat → Nat → Int64} {d : Nat} (hd : 1 ≤ d)  {I : Nat → Nat → Int32} {E : Nat → Nat → Option Nat} {x0 : Int32} {r0 : Int32} (hf : f_X15_taken x0 = some r0) : q_Ct g m_X15_taken d 0 0 [] [.int x0] (q_hp (t, r, m, z, N, ext, rx, L) I E) (fun o h' => o = .inl (some (.int r0)) ∧ h' = q_hp (t, r, m, z, N, ext, rx, L) (q_ws I []) (q_ws E [])) := by
  rw [f_X15_taken] at hf
  refine q_Ct_of ok_X15_taken (Nat.le_of_ble_eq_true rfl) ?_ _ rfl rfl
  change q_J g m_X15_taken d 0 0 _ [] _ 0 0 (q_kc (t, r, m, z, N, ext, rx, L) I E 0 [some (.int x0)] [] [] [])
  refine q_blk 1 [] (c' := q_kc (t, r, m, z, N, ext, rx, L) I E 1 [some (.int x0)] [.int x0] [] []) ok_X15_taken rfl q_cn ?_
  refine q_ksw [4, 8, 8, 8, 8, 8, 8, 8, 8, 8, 8, 2, 2, 2, 2, 2, 4, 4, 6, 8, 8, 8, 8, 8, 8, 8, 8, 4] ok_X15_taken rfl (dp := 8) rfl (fun ix t9 ht9 hx9 => ?_) (fun hx9 => ?_) (by decide) (by decide)
  · match ix, ht9 with
    | 0, ht9 =>
      have hx9 : x0 = 5 := hx9
      cases ht9
      have hf := q_ip hx9 hf
      refine q_blk 1 [] (c' := q_kc (t, r, m, z, N, ext, rx, L) I E 5 [some (.int x0)] [.int (1 : Int32)] [] []) ok_X15_taken rfl q_cn ?_
      cases hf
      exact q_kri ok_X15_taken rfl rfl rfl (Nat.le_of_ble_eq_true rfl) (Nat.le_of_ble_eq_true rfl) ⟨rfl, q_hpe (q_fin [] rfl) (q_fin [] rfl)⟩
    | 1, ht9 =>
      have hx9 : x0 = 6 := hx9
      cases ht9
      have hf := q_in (fun hz9 => absurd (hx9.symm.trans hz9) (by decide)) hf
      have hf := q_ip hx9 hf
      refine q_blk 1 [] (c' := q_kc (t, r, m, z, N, ext, rx, L) I E 9 [some (.int x0)] [.int (-1 : Int32)] [] []) ok_X15_taken rfl q_cn ?_
      cases hf
      exact q_kri ok_X15_taken rfl rfl rfl (Nat.le_of_ble_eq_true rfl) (Nat.le_of_ble_eq_true rfl) ⟨rfl, q_hpe (q_fin [] rfl) (q_fin [] rfl)⟩
    | 2, ht9 =>
      have hx9 : x0 = 7 := hx9
      cases ht9
      have hf := q_in (fun hz9 => absurd (hx9.symm.trans hz9) (by decide)) hf
      have hf := q_in (fun hz9 => absurd (hx9.symm.trans hz9) (by decide)) hf
      have hf := q_ip hx9 hf
      refine q_blk 1 [] (c' := q_kc (t, r, m, z, N, ext, rx, L) I E 9 [some (.int x0)] [.int (-1 : Int32)] [] []) ok_X15_taken rfl q_cn ?_
      cases hf
      exact q_kri ok_X15_taken rfl rfl rfl (Nat.le_of_ble_eq_true rfl) (Nat.le_of_ble_eq_true rfl) ⟨rfl, q_hpe (q_fin [] rfl) (q_fin [] rfl)⟩
    | 3, ht9 =>
      have hx9 : x0 = 8 := hx9
      cases ht9
      have hf := q_in (fun hz9 => absurd (hx9.symm.trans hz9) (by decide)) hf
      have hf := q_in (fun hz9 => absurd (hx9.symm.trans hz9) (by decide)) hf
      have hf := q_in (fun hz9 => absurd (hx9.symm.trans hz9) (by decide)) hf
      have hf := q_ip hx9 hf
      refine q_blk 1 [] (c' := q_kc (t, r, m, z, N, ext, rx, L) I E 9 [some (.int x0)] [.int (-1 : Int32)] [] []) ok_X15_taken rfl q_cn ?_
      cases hf
      exact q_kri ok_X15_taken rfl rfl rfl (Nat.le_of_ble_eq_true rfl) (Nat.le_of_ble_eq_true rfl) ⟨rfl, q_hpe (q_fin [] rfl) (q_fin [] rfl)⟩
    | 4, ht9 =>
      have hx9 : x0 = 9 := hx9
      cases ht9
      have hf := q_in (fun hz9 => absurd (hx9.symm.trans hz9) (by decide)) hf
      have hf := q_in (fun hz9 => absurd (hx9.symm.trans hz9) (by decide)) hf
      have hf := q_in (fun hz9 => absurd (hx9.symm.trans hz9) (by decide)) hf
      have hf := q_in (fun hz9 => absurd (hx9.symm.trans hz9) (by decide)) hf
      have hf := q_ip hx9 hf
      refine q_blk 1 [] (c' := q_kc (t, r, m, z, N, ext, rx, L) I E 9 [some (.int x0)] [.int (-1 : Int32)] [] []) ok_X15_taken rfl q_cn ?_
      cases hf
      exact q_kri ok_X15_taken rfl rfl rfl (Nat.le_of_ble_eq_true rfl) (Nat.le_of_ble_eq_true rfl) ⟨rfl, q_hpe (q_fin [] rfl) (q_fin [] rfl)⟩
    | 5, ht9 =>
      have hx9 : x0 = 10 := hx9
      cases ht9
      have hf := q_in (fun hz9 => absurd (hx9.symm.trans hz9) (by decide)) hf
      have hf := q_in (fun hz9 => absurd (hx9.symm.trans hz9) (by decide)) hf
      have hf := q_in (fun hz9 => absurd (hx9.symm.trans hz9) (by decide)) hf
      have hf := q_in (fun hz9 => absurd (hx9.symm.trans hz9) (by decide)) hf
      have hf := q_in (fun hz9 => absurd (hx9.symm.trans hz9) (by decide)) hf
      have hf := q_ip hx9 hf
      refine q_blk 1 [] (c' := q_kc (t, r, m, z, N, ext, rx, L) I E 9 [some (.int x0)] [.int (-1 : Int32)] [] []) ok_X15_taken rfl q_cn ?_
      cases hf
      exact q_kri ok_X15_taken rfl rfl rfl (Nat.le_of_ble_eq_true rfl) (Nat.le_of_ble_eq_true rfl) ⟨rfl, q_hpe (q_fin [] rfl) (q_fin [] rfl)⟩
    | 6, ht9 =>
      have hx9 : x0 = 11 := hx9
      cases ht9
      have hf := q_in (fun hz9 => absurd (hx9.symm.trans hz9) (by decide)) hf
      have hf := q_in (fun hz9 => absurd (hx9.symm.trans hz9) (by decide)) hf
      have hf := q_in (fun hz9 => absurd (hx9.symm.trans hz9) (by decide)) hf
      have hf := q_in (fun hz9 => absurd (hx9.symm.trans hz9) (by decide)) hf
      have hf := q_in (fun hz9 => absurd (hx9.symm.trans hz9) (by decide)) hf
      have hf := q_in (fun hz9 => absurd (hx9.symm.trans hz9) (by decide)) hf
      have hf := q_ip hx9 hf
      refine q_blk 1 [] (c' := q_kc (t, r, m, z, N, ext, rx, L) I E 9 [some (.int x0)] [.int (-1 : Int32)] [] []) ok_X15_taken rfl q_cn ?_
      cases hf
      exact q_kri ok_X15_taken rfl rfl rfl (Nat.le_of_ble_eq_true rfl) (Nat.le_of_ble_eq_true rfl) ⟨rfl, q_hpe (q_fin [] rfl) (q_fin [] rfl)⟩
    | 7, ht9 =>
      have hx9 : x0 = 12 := hx9
      cases ht9
      have hf := q_in (fun hz9 => absurd (hx9.symm.trans hz9) (by decide)) hf
      have hf := q_in (fun hz9 => absurd (hx9.symm.trans hz9) (by decide)) hf
      have hf := q_in (fun hz9 => absurd (hx9.symm.trans hz9) (by decide)) hf
      have hf := q_in (fun hz9 => absurd (hx9.symm.trans hz9) (by decide)) hf
      have hf := q_in (fun hz9 => absurd (hx9.symm.trans hz9) (by decide)) hf
      have hf := q_in (fun hz9 => absurd (hx9.symm.trans hz9) (by decide)) hf
      have hf := q_in (fun hz9 => absurd (hx9.symm.trans hz9) (by decide)) hf
      have hf := q_ip hx9 hf
      refine q_blk 1 [] (c' := q_kc (t, r, m, z, N, ext, rx, L) I E 9 [some (.int x0)] [.int (-1 : Int32)] [] []) ok_X15_taken rfl q_cn ?_
      cases hf
      exact q_kri ok_X15_taken rfl rfl rfl (Nat.le_of_ble_eq_true rfl) (Nat.le_of_ble_eq_true rfl) ⟨rfl, q_hpe (q_fin [] rfl) (q_fin [] rfl)⟩
    | 8, ht9 =>
      have hx9 : x0 = 13 := hx9
      cases ht9
      have hf := q_in (fun hz9 => absurd (hx9.symm.trans hz9) (by decide)) hf
      have hf := q_in (fun hz9 => absurd (hx9.symm.trans hz9) (by decide)) hf
      have hf := q_in (fun hz9 => absurd (hx9.symm.trans hz9) (by decide)) hf
      have hf := q_in (fun hz9 => absurd (hx9.symm.trans hz9) (by decide)) hf
      have hf := q_in (fun hz9 => absurd (hx9.symm.trans hz9) (by decide)) hf
      have hf := q_in (fun hz9 => absurd (hx9.symm.trans hz9) (by decide)) hf
      have hf := q_in (fun hz9 => absurd (hx9.symm.trans hz9) (by decide)) hf
      have hf := q_in (fun hz9 => absurd (hx9.symm.trans hz9) (by decide)) hf
      have hf := q_ip hx9 hf
      refine q_blk 1 [] (c' := q_kc (t, r, m, z, N, ext, rx, L) I E 9 [some (.int x0)] [.int (-1 : Int32)] [] []) ok_X15_taken rfl q_cn ?_
      cases hf
      exact q_kri ok_X15_taken rfl rfl rfl (Nat.le_of_ble_eq_true rfl) (Nat.le_of_ble_eq_true rfl) ⟨rfl, q_hpe (q_fin [] rfl) (q_fin [] rfl)⟩
    | 9, ht9 =>
      have hx9 : x0 = 14 := hx9
      cases ht9
      have hf := q_in (fun hz9 => absurd (hx9.symm.trans hz9) (by decide)) hf
      have hf := q_in (fun hz9 => absurd (hx9.symm.trans hz9) (by decide)) hf
      have hf := q_in (fun hz9 => absurd (hx9.symm.trans hz9) (by decide)) hf
      have hf := q_in (fun hz9 => absurd (hx9.symm.trans hz9) (by decide)) hf
      have hf := q_in (fun hz9 => absurd (hx9.symm.trans hz9) (by decide)) hf
      have hf := q_in (fun hz9 => absurd (hx9.symm.trans hz9) (by decide)) hf
      have hf := q_in (fun hz9 => absurd (hx9.symm.trans hz9) (by decide)) hf
      have hf := q_in (fun hz9 => absurd (hx9.symm.trans hz9) (by decide)) hf
      have hf := q_in (fun hz9 => absurd (hx9.symm.trans hz9) (by decide)) hf
      have hf := q_ip hx9 hf
      refine q_blk 1 [] (c' := q_kc (t, r, m, z, N, ext, rx, L) I E 9 [some (.int x0)] [.int (-1 : Int32)] [] []) ok_X15_taken rfl q_cn ?_
      cases hf
      exact q_kri ok_X15_taken rfl rfl rfl (Nat.le_of_ble_eq_true rfl) (Nat.le_of_ble_eq_true rfl) ⟨rfl, q_hpe (q_fin [] rfl) (q_fin [] rfl)⟩
    | 10, ht9 =>
      have hx9 : x0 = 15 := hx9
      cases ht9
      have hf := q_in (fun hz9 => absurd (hx9.symm.trans hz9) (by decide)) hf
      have hf := q_in (fun hz9 => absurd (hx9.symm.trans hz9) (by decide)) hf
      have hf := q_in (fun hz9 => absurd (hx9.symm.trans hz9) (by decide)) hf
      have hf := q_in (fun hz9 => absurd (hx9.symm.trans hz9) (by decide)) hf
      have hf := q_in (fun hz9 => absurd (hx9.symm.trans hz9) (by decide)) hf
      have hf := q_in (fun hz9 => absurd (hx9.symm.trans hz9) (by decide)) hf
      have hf := q_in (fun hz9 => absurd (hx9.symm.trans hz9) (by decide)) hf
      have hf := q_in (fun hz9 => absurd (hx9.symm.trans hz9) (by decide)) hf
      have hf := q_in (fun hz9 => absurd (hx9.symm.trans hz9) (by decide)) hf
      have hf := q_in (fun hz9 => absurd (hx9.symm.trans hz9) (by decide)) hf
      have hf := q_ip hx9 hf
      refine q_blk 1 [] (c' := q_kc (t, r, m, z, N, ext, rx, L) I E 9 [some (.int x0)] [.int (-1 : Int32)] [] []) ok_X15_taken rfl q_cn ?_
      cases hf
      exact q_kri ok_X15_taken rfl rfl rfl (Nat.le_of_ble_eq_true rfl) (Nat.le_of_ble_eq_true rfl) ⟨rfl, q_hpe (q_fin [] rfl) (q_fin [] rfl)⟩
    | 11, ht9 =>
      have hx9 : x0 = 16 := hx9
      cases ht9
      have hf := q_in (fun hz9 => absurd (hx9.symm.trans hz9) (by decide)) hf
      have hf := q_in (fun hz9 => absurd (hx9.symm.trans hz9) (by decide)) hf
      have hf := q_in (fun hz9 => absurd (hx9.symm.trans hz9) (by decide)) hf
      have hf := q_in (fun hz9 => absurd (hx9.symm.trans hz9) (by decide)) hf
      have hf := q_in (fun hz9 => absurd (hx9.symm.trans hz9) (by decide)) hf
      have hf := q_in (fun hz9 => absurd (hx9.symm.trans hz9) (by decide)) hf
      have hf := q_in (fun hz9 => absurd (hx9.symm.trans hz9) (by decide)) hf
      have hf := q_in (fun hz9 => absurd (hx9.symm.trans hz9) (by decide)) hf
      have hf := q_in (fun hz9 => absurd (hx9.symm.trans hz9) (by decide)) hf
      have hf := q_in (fun hz9 => absurd (hx9.symm.trans hz9) (by decide)) hf
      have hf := q_in (fun hz9 => absurd (hx9.symm.trans hz9) (by decide)) hf
      have hf := q_ip hx9 hf
      refine q_blk 1 [] (c' := q_kc (t, r, m, z, N, ext, rx, L) I E 3 [some (.int x0)] [.int (0 : Int32)] [] []) ok_X15_taken rfl q_cn ?_
      cases hf
      exact q_kri ok_X15_taken rfl rfl rfl (Nat.le_of_ble_eq_true rfl) (Nat.le_of_ble_eq_true rfl) ⟨rfl, q_hpe (q_fin [] rfl) (q_fin [] rfl)⟩
    | 12, ht9 =>
      have hx9 : x0 = 17 := hx9
      cases ht9
      have hf := q_in (fun hz9 => absurd (hx9.symm.trans hz9) (by decide)) hf
      have hf := q_in (fun hz9 => absurd (hx9.symm.trans hz9) (by decide)) hf
      have hf := q_in (fun hz9 => absurd (hx9.symm.trans hz9) (by decide)) hf
      have hf := q_in (fun hz9 => absurd (hx9.symm.trans hz9) (by decide)) hf
      have hf := q_in (fun hz9 => absurd (hx9.symm.trans hz9) (by decide)) hf
      have hf := q_in (fun hz9 => absurd (hx9.symm.trans hz9) (by decide)) hf
      have hf := q_in (fun hz9 => absurd (hx9.symm.trans hz9) (by decide)) hf
      have hf := q_in (fun hz9 => absurd (hx9.symm.trans hz9) (by decide)) hf
      have hf := q_in (fun hz9 => absurd (hx9.symm.trans hz9) (by decide)) hf
      have hf := q_in (fun hz9 => absurd (hx9.symm.trans hz9) (by decide)) hf
      have hf := q_in (fun hz9 => absurd (hx9.symm.trans hz9) (by decide)) hf
      have hf := q_in (fun hz9 => absurd (hx9.symm.trans hz9) (by decide)) hf
      have hf := q_ip hx9 hf
      refine q_blk 1 [] (c' := q_kc (t, r, m, z, N, ext, rx, L) I E 3 [some (.int x0)] [.int (0 : Int32)] [] []) ok_X15_taken rfl q_cn ?_
      cases hf
      exact q_kri ok_X15_taken rfl rfl rfl (Nat.le_of_ble_eq_true rfl) (Nat.le_of_ble_eq_true rfl) ⟨rfl, q_hpe (q_fin [] rfl) (q_fin [] rfl)⟩
    | 13, ht9 =>
      have hx9 : x0 = 18 := hx9
      cases ht9
      have hf := q_in (fun hz9 => absurd (hx9.symm.trans hz9) (by decide)) hf
      have hf := q_in (fun hz9 => absurd (hx9.symm.trans hz9) (by decide)) hf
      have hf := q_in (fun hz9 => absurd (hx9.symm.trans hz9) (by decide)) hf
      have hf := q_in (fun hz9 => absurd (hx9.symm.trans hz9) (by decide)) hf
      have hf := q_in (fun hz9 => absurd (hx9.symm.trans hz9) (by decide)) hf
      have hf := q_in (fun hz9 => absurd (hx9.symm.trans hz9) (by decide)) hf
      have hf := q_in (fun hz9 => absurd (hx9.symm.trans hz9) (by decide)) hf
      have hf := q_in (fun hz9 => absurd (hx9.symm.trans hz9) (by decide)) hf
      have hf := q_in (fun hz9 => absurd (hx9.symm.trans hz9) (by decide)) hf
      have hf := q_in (fun hz9 => absurd (hx9.symm.trans hz9) (by decide)) hf
      have hf := q_in (fun hz9 => absurd (hx9.symm.trans hz9) (by decide)) hf
      have hf := q_in (fun hz9 => absurd (hx9.symm.trans hz9) (by decide)) hf
      have hf := q_in (fun hz9 => absurd (hx9.symm.trans hz9) (by decide)) hf
      have hf := q_ip hx9 hf
      refine q_blk 1 [] (c' := q_kc (t, r, m, z, N, ext, rx, L) I E 3 [some (.int x0)] [.int (0 : Int32)] [] []) ok_X15_taken rfl q_cn ?_
      cases hf
      exact q_kri ok_X15_taken rfl rfl rfl (Nat.le_of_ble_eq_true rfl) (Nat.le_of_ble_eq_true rfl) ⟨rfl, q_hpe (q_fin [] rfl) (q_fin [] rfl)⟩
    | 14, ht9 =>
      have hx9 : x0 = 19 := hx9
      cases ht9
      have hf := q_in (fun hz9 => absurd (hx9.symm.trans hz9) (by decide)) hf
      have hf := q_in (fun hz9 => absurd (hx9.symm.trans hz9) (by decide)) hf
      have hf := q_in (fun hz9 => absurd (hx9.symm.trans hz9) (by decide)) hf
      have hf := q_in (fun hz9 => absurd (hx9.symm.trans hz9) (by decide)) hf
      have hf := q_in (fun hz9 => absurd (hx9.symm.trans hz9) (by decide)) hf
      have hf := q_in (fun hz9 => absurd (hx9.symm.trans hz9) (by decide)) hf
      have hf := q_in (fun hz9 => absurd (hx9.symm.trans hz9) (by decide)) hf
      have hf := q_in (fun hz9 => absurd (hx9.symm.trans hz9) (by decide)) hf
      have hf := q_in (fun hz9 => absurd (hx9.symm.trans hz9) (by decide)) hf
      have hf := q_in (fun hz9 => absurd (hx9.symm.trans hz9) (by decide)) hf
      have hf := q_in (fun hz9 => absurd (hx9.symm.trans hz9) (by decide)) hf
      have hf := q_in (fun hz9 => absurd (hx9.symm.trans hz9) (by decide)) hf
      have hf := q_in (fun hz9 => absurd (hx9.symm.trans hz9) (by decide)) hf
      have hf := q_in (fun hz9 => absurd (hx9.symm.trans hz9) (by decide)) hf
      have hf := q_ip hx9 hf
      refine q_blk 1 [] (c' := q_kc (t, r, m, z, N, ext, rx, L) I E 3 [some (.int x0)] [.int (0 : Int32)] [] []) ok_X15_taken rfl q_cn ?_
      cases hf
      exact q_kri ok_X15_taken rfl rfl rfl (Nat.le_of_ble_eq_true rfl) (Nat.le_of_ble_eq_true rfl) ⟨rfl, q_hpe (q_fin [] rfl) (q_fin [] rfl)⟩
    | 15, ht9 =>
      have hx9 : x0 = 20 := hx9
      cases ht9
      have hf := q_in (fun hz9 => absurd (hx9.symm.trans hz9) (by decide)) hf
      have hf := q_in (fun hz9 => absurd (hx9.symm.trans hz9) (by decide)) hf
      have hf := q_in (fun hz9 => absurd (hx9.symm.trans hz9) (by decide)) hf
      have hf := q_in (fun hz9 => absurd (hx9.symm.trans hz9) (by decide)) hf
      have hf := q_in (fun hz9 => absurd (hx9.symm.trans hz9) (by decide)) hf
      have hf := q_in (fun hz9 => absurd (hx9.symm.trans hz9) (by decide)) hf
      have hf := q_in (fun hz9 => absurd (hx9.symm.trans hz9) (by decide)) hf
      have hf := q_in (fun hz9 => absurd (hx9.symm.trans hz9) (by decide)) hf
      have hf := q_in (fun hz9 => absurd (hx9.symm.trans hz9) (by decide)) hf
      have hf := q_in (fun hz9 => absurd (hx9.symm.trans hz9) (by decide)) hf
      have hf := q_in (fun hz9 => absurd (hx9.symm.trans hz9) (by decide)) hf
      have hf := q_in (fun hz9 => absurd (hx9.symm.trans hz9) (by decide)) hf
      have hf := q_in (fun hz9 => absurd (hx9.symm.trans hz9) (by decide)) hf
      have hf := q_in (fun hz9 => absurd (hx9.symm.trans hz9) (by decide)) hf
      have hf := q_in (fun hz9 => absurd (hx9.symm.trans hz9) (by decide)) hf
      have hf := q_ip hx9 hf
      refine q_blk 1 [] (c' := q_kc (t, r, m, z, N, ext, rx, L) I E 3 [some (.int x0)] [.int (0 : Int32)] [] []) ok_X15_taken rfl q_cn ?_
      cases hf
      exact q_kri ok_X15_taken rfl rfl rfl (Nat.le_of_ble_eq_true rfl) (Nat.le_of_ble_eq_true rfl) ⟨rfl, q_hpe (q_fin [] rfl) (q_fin [] rfl)⟩
    | 16, ht9 =>
      have hx9 : x0 = 21 := hx9
      cases ht9
      have hf := q_in (fun hz9 => absurd (hx9.symm.trans hz9) (by decide)) hf
      have hf := q_in (fun hz9 => absurd (hx9.symm.trans hz9) (by decide)) hf
      have hf := q_in (fun hz9 => absurd (hx9.symm.trans hz9) (by decide)) hf
      have hf := q_in (fun hz9 => absurd (hx9.symm.trans hz9) (by decide)) hf
      have hf := q_in (fun hz9 => absurd (hx9.symm.trans hz9) (by decide)) hf
      have hf := q_in (fun hz9 => absurd (hx9.symm.trans hz9) (by decide)) hf
      have hf := q_in (fun hz9 => absurd (hx9.symm.trans hz9) (by decide)) hf
      have hf := q_in (fun hz9 => absurd (hx9.symm.trans hz9) (by decide)) hf
      have hf := q_in (fun hz9 => absurd (hx9.symm.trans hz9) (by decide)) hf
      have hf := q_in (fun hz9 => absurd (hx9.symm.trans hz9) (by decide)) hf
      have hf := q_in (fun hz9 => absurd (hx9.symm.trans hz9) (by decide)) hf
      have hf := q_in (fun hz9 => absurd (hx9.symm.trans hz9) (by decide)) hf
      have hf := q_in (fun hz9 => absurd (hx9.symm.trans hz9) (by decide)) hf
      have hf := q_in (fun hz9 => absurd (hx9.symm.trans hz9) (by decide)) hf
      have hf := q_in (fun hz9 => absurd (hx9.symm.trans hz9) (by decide)) hf
      have hf := q_in (fun hz9 => absurd (hx9.symm.trans hz9) (by decide)) hf
      have hf := q_ip hx9 hf
      refine q_blk 1 [] (c' := q_kc (t, r, m, z, N, ext, rx, L) I E 5 [some (.int x0)] [.int (1 : Int32)] [] []) ok_X15_taken rfl q_cn ?_
      cases hf
      exact q_kri ok_X15_taken rfl rfl rfl (Nat.le_of_ble_eq_true rfl) (Nat.le_of_ble_eq_true rfl) ⟨rfl, q_hpe (q_fin [] rfl) (q_fin [] rfl)⟩
    | 17, ht9 =>
      have hx9 : x0 = 22 := hx9
      cases ht9
      have hf := q_in (fun hz9 => absurd (hx9.symm.trans hz9) (by decide)) hf
      have hf := q_in (fun hz9 => absurd (hx9.symm.trans hz9) (by decide)) hf
      have hf := q_in (fun hz9 => absurd (hx9.symm.trans hz9) (by decide)) hf
      have hf := q_in (fun hz9 => absurd (hx9.symm.trans hz9) (by decide)) hf
      have hf := q_in (fun hz9 => absurd (hx9.symm.trans hz9) (by decide)) hf
      have hf := q_in (fun hz9 => absurd (hx9.symm.trans hz9) (by decide)) hf
      have hf := q_in (fun hz9 => absurd (hx9.symm.trans hz9) (by decide)) hf
      have hf := q_in (fun hz9 => absurd (hx9.symm.trans hz9) (by decide)) hf
      have hf := q_in (fun hz9 => absurd (hx9.symm.trans hz9) (by decide)) hf
      have hf := q_in (fun hz9 => absurd (hx9.symm.trans hz9) (by decide)) hf
      have hf := q_in (fun hz9 => absurd (hx9.symm.trans hz9) (by decide)) hf
      have hf := q_in (fun hz9 => absurd (hx9.symm.trans hz9) (by decide)) hf
      have hf := q_in (fun hz9 => absurd (hx9.symm.trans hz9) (by decide)) hf
      have hf := q_in (fun hz9 => absurd (hx9.symm.trans hz9) (by decide)) hf
      have hf := q_in (fun hz9 => absurd (hx9.symm.trans hz9) (by decide)) hf
      have hf := q_in (fun hz9 => absurd (hx9.symm.trans hz9) (by decide)) hf
      have hf := q_in (fun hz9 => absurd (hx9.symm.trans hz9) (by decide)) hf
      have hf := q_ip hx9 hf
      refine q_blk 1 [] (c' := q_kc (t, r, m, z, N, ext, rx, L) I E 5 [some (.int x0)] [.int (1 : Int32)] [] []) ok_X15_taken rfl q_cn ?_
      cases hf
      exact q_kri ok_X15_taken rfl rfl rfl (Nat.le_of_ble_eq_true rfl) (Nat.le_of_ble_eq_true rfl) ⟨rfl, q_hpe (q_fin [] rfl) (q_fin [] rfl)⟩
    | 18, ht9 =>
      have hx9 : x0 = 23 := hx9
      cases ht9
      have hf := q_in (fun hz9 => absurd (hx9.symm.trans hz9) (by decide)) hf
      have hf := q_in (fun hz9 => absurd (hx9.symm.trans hz9) (by decide)) hf
      have hf := q_in (fun hz9 => absurd (hx9.symm.trans hz9) (by decide)) hf
      have hf := q_in (fun hz9 => absurd (hx9.symm.trans hz9) (by decide)) hf
      have hf := q_in (fun hz9 => absurd (hx9.symm.trans hz9) (by decide)) hf
      have hf := q_in (fun hz9 => absurd (hx9.symm.trans hz9) (by decide)) hf
      have hf := q_in (fun hz9 => absurd (hx9.symm.trans hz9) (by decide)) hf
      have hf := q_in (fun hz9 => absurd (hx9.symm.trans hz9) (by decide)) hf
      have hf := q_in (fun hz9 => absurd (hx9.symm.trans hz9) (by decide)) hf
      have hf := q_in (fun hz9 => absurd (hx9.symm.trans hz9) (by decide)) hf
      have hf := q_in (fun hz9 => absurd (hx9.symm.trans hz9) (by decide)) hf
      have hf := q_in (fun hz9 => absurd (hx9.symm.trans hz9) (by decide)) hf
      have hf := q_in (fun hz9 => absurd (hx9.symm.trans hz9) (by decide)) hf
      have hf := q_in (fun hz9 => absurd (hx9.symm.trans hz9) (by decide)) hf
      have hf := q_in (fun hz9 => absurd (hx9.symm.trans hz9) (by decide)) hf
      have hf := q_in (fun hz9 => absurd (hx9.symm.trans hz9) (by decide)) hf
      have hf := q_in (fun hz9 => absurd (hx9.symm.trans hz9) (by decide)) hf
      have hf := q_in (fun hz9 => absurd (hx9.symm.trans hz9) (by decide)) hf
      have hf := q_ip hx9 hf
      refine q_blk 1 [] (c' := q_kc (t, r, m, z, N, ext, rx, L) I E 7 [some (.int x0)] [.int (2 : Int32)] [] []) ok_X15_taken rfl q_cn ?_
      cases hf
      exact q_kri ok_X15_taken rfl rfl rfl (Nat.le_of_ble_eq_true rfl) (Nat.le_of_ble_eq_true rfl) ⟨rfl, q_hpe (q_fin [] rfl) (q_fin [] rfl)⟩
    | 19, ht9 =>
      have hx9 : x0 = 24 := hx9
      cases ht9
      have hf := q_in (fun hz9 => absurd (hx9.symm.trans hz9) (by decide)) hf
      have hf := q_in (fun hz9 => absurd (hx9.symm.trans hz9) (by decide)) hf
      have hf := q_in (fun hz9 => absurd (hx9.symm.trans hz9) (by decide)) hf
      have hf := q_in (fun hz9 => absurd (hx9.symm.trans hz9) (by decide)) hf
      have hf := q_in (fun hz9 => absurd (hx9.symm.trans hz9) (by decide)) hf
      have hf := q_in (fun hz9 => absurd (hx9.symm.trans hz9) (by decide)) hf
      have hf := q_in (fun hz9 => absurd (hx9.symm.trans hz9) (by decide)) hf
      have hf := q_in (fun hz9 => absurd (hx9.symm.trans hz9) (by decide)) hf
      have hf := q_in (fun hz9 => absurd (hx9.symm.trans hz9) (by decide)) hf
      have hf := q_in (fun hz9 => absurd (hx9.symm.trans hz9) (by decide)) hf
      have hf := q_in (fun hz9 => absurd (hx9.symm.trans hz9) (by decide)) hf
      have hf := q_in (fun hz9 => absurd (hx9.symm.trans hz9) (by decide)) hf
      have hf := q_in (fun hz9 => absurd (hx9.symm.trans hz9) (by decide)) hf
      have hf := q_in (fun hz9 => absurd (hx9.symm.trans hz9) (by decide)) hf
      have hf := q_in (fun hz9 => absurd (hx9.symm.trans hz9) (by decide)) hf
      have hf := q_in (fun hz9 => absurd (hx9.symm.trans hz9) (by decide)) hf
      have hf := q_in (fun hz9 => absurd (hx9.symm.trans hz9) (by decide)) hf
      have hf := q_in (fun hz9 => absurd (hx9.symm.trans hz9) (by decide)) hf
      have hf := q_in (fun hz9 => absurd (hx9.symm.trans hz9) (by decide)) hf
      have hf := q_ip hx9 hf
      refine q_blk 1 [] (c' := q_kc (t, r, m, z, N, ext, rx, L) I E 9 [some (.int x0)] [.int (-1 : Int32)] [] []) ok_X15_taken rfl q_cn ?_
      cases hf
      exact q_kri ok_X15_taken rfl rfl rfl (Nat.le_of_ble_eq_true rfl) (Nat.le_of_ble_eq_true rfl) ⟨rfl, q_hpe (q_fin [] rfl) (q_fin [] rfl)⟩
    | 20, ht9 =>
      have hx9 : x0 = 25 := hx9
      cases ht9
      have hf := q_in (fun hz9 => absurd (hx9.symm.trans hz9) (by decide)) hf
      have hf := q_in (fun hz9 => absurd (hx9.symm.trans hz9) (by decide)) hf
      have hf := q_in (fun hz9 => absurd (hx9.symm.trans hz9) (by decide)) hf
      have hf := q_in (fun hz9 => absurd (hx9.symm.trans hz9) (by decide)) hf
      have hf := q_in (fun hz9 => absurd (hx9.symm.trans hz9) (by decide)) hf
      have hf := q_in (fun hz9 => absurd (hx9.symm.trans hz9) (by decide)) hf
      have hf := q_in (fun hz9 => absurd (hx9.symm.trans hz9) (by decide)) hf
      have hf := q_in (fun hz9 => absurd (hx9.symm.trans hz9) (by decide)) hf
      have hf := q_in (fun hz9 => absurd (hx9.symm.trans hz9) (by decide)) hf
      have hf := q_in (fun hz9 => absurd (hx9.symm.trans hz9) (by decide)) hf
      have hf := q_in (fun hz9 => absurd (hx9.symm.trans hz9) (by decide)) hf
      have hf := q_in (fun hz9 => absurd (hx9.symm.trans hz9) (by decide)) hf
      have hf := q_in (fun hz9 => absurd (hx9.symm.trans hz9) (by decide)) hf
      have hf := q_in (fun hz9 => absurd (hx9.symm.trans hz9) (by decide)) hf
      have hf := q_in (fun hz9 => absurd (hx9.symm.trans hz9) (by decide)) hf
      have hf := q_in (fun hz9 => absurd (hx9.symm.trans hz9) (by decide)) hf
      have hf := q_in (fun hz9 => absurd (hx9.symm.trans hz9) (by decide)) hf
      have hf := q_in (fun hz9 => absurd (hx9.symm.trans hz9) (by decide)) hf
      have hf := q_in (fun hz9 => absurd (hx9.symm.trans hz9) (by decide)) hf
      have hf := q_in (fun hz9 => absurd (hx9.symm.trans hz9) (by decide)) hf
      have hf := q_ip hx9 hf
      refine q_blk 1 [] (c' := q_kc (t, r, m, z, N, ext, rx, L) I E 9 [some (.int x0)] [.int (-1 : Int32)] [] []) ok_X15_taken rfl q_cn ?_
      cases hf
      exact q_kri ok_X15_taken rfl rfl rfl (Nat.le_of_ble_eq_true rfl) (Nat.le_of_ble_eq_true rfl) ⟨rfl, q_hpe (q_fin [] rfl) (q_fin [] rfl)⟩
    | 21, ht9 =>
      have hx9 : x0 = 26 := hx9
      cases ht9
      have hf := q_in (fun hz9 => absurd (hx9.symm.trans hz9) (by decide)) hf
      have hf := q_in (fun hz9 => absurd (hx9.symm.trans hz9) (by decide)) hf
      have hf := q_in (fun hz9 => absurd (hx9.symm.trans hz9) (by decide)) hf
      have hf := q_in (fun hz9 => absurd (hx9.symm.trans hz9) (by decide)) hf
      have hf := q_in (fun hz9 => absurd (hx9.symm.trans hz9) (by decide)) hf
      have hf := q_in (fun hz9 => absurd (hx9.symm.trans hz9) (by decide)) hf
      have hf := q_in (fun hz9 => absurd (hx9.symm.trans hz9) (by decide)) hf
      have hf := q_in (fun hz9 => absurd (hx9.symm.trans hz9) (by decide)) hf
      have hf := q_in (fun hz9 => absurd (hx9.symm.trans hz9) (by decide)) hf
      have hf := q_in (fun hz9 => absurd (hx9.symm.trans hz9) (by decide)) hf
      have hf := q_in (fun hz9 => absurd (hx9.symm.trans hz9) (by decide)) hf
      have hf := q_in (fun hz9 => absurd (hx9.symm.trans hz9) (by decide)) hf
      have hf := q_in (fun hz9 => absurd (hx9.symm.trans hz9) (by decide)) hf
      have hf := q_in (fun hz9 => absurd (hx9.symm.trans hz9) (by decide)) hf
      have hf := q_in (fun hz9 => absurd (hx9.symm.trans hz9) (by decide)) hf
      have hf := q_in (fun hz9 => absurd (hx9.symm.trans hz9) (by decide)) hf
      have hf := q_in (fun hz9 => absurd (hx9.symm.trans hz9) (by decide)) hf
      have hf := q_in (fun hz9 => absurd (hx9.symm.trans hz9) (by decide)) hf
      have hf := q_in (fun hz9 => absurd (hx9.symm.trans hz9) (by decide)) hf
      have hf := q_in (fun hz9 => absurd (hx9.symm.trans hz9) (by decide)) hf
      have hf := q_in (fun hz9 => absurd (hx9.symm.trans hz9) (by decide)) hf
      have hf := q_ip hx9 hf
      refine q_blk 1 [] (c' := q_kc (t, r, m, z, N, ext, rx, L) I E 9 [some (.int x0)] [.int (-1 : Int32)] [] []) ok_X15_taken rfl q_cn ?_
      cases hf
      exact q_kri ok_X15_taken rfl rfl rfl (Nat.le_of_ble_eq_true rfl) (Nat.le_of_ble_eq_true rfl) ⟨rfl, q_hpe (q_fin [] rfl) (q_fin [] rfl)⟩
    | 22, ht9 =>
      have hx9 : x0 = 27 := hx9
      cases ht9
      have hf := q_in (fun hz9 => absurd (hx9.symm.trans hz9) (by decide)) hf
      have hf := q_in (fun hz9 => absurd (hx9.symm.trans hz9) (by decide)) hf
      have hf := q_in (fun hz9 => absurd (hx9.symm.trans hz9) (by decide)) hf
      have hf := q_in (fun hz9 => absurd (hx9.symm.trans hz9) (by decide)) hf
      have hf := q_in (fun hz9 => absurd (hx9.symm.trans hz9) (by decide)) hf
      have hf := q_in (fun hz9 => absurd (hx9.symm.trans hz9) (by decide)) hf
      have hf := q_in (fun hz9 => absurd (hx9.symm.trans hz9) (by decide)) hf
      have hf := q_in (fun hz9 => absurd (hx9.symm.trans hz9) (by decide)) hf
      have hf := q_in (fun hz9 => absurd (hx9.symm.trans hz9) (by decide)) hf
      have hf := q_in (fun hz9 => absurd (hx9.symm.trans hz9) (by decide)) hf
      have hf := q_in (fun hz9 => absurd (hx9.symm.trans hz9) (by decide)) hf
      have hf := q_in (fun hz9 => absurd (hx9.symm.trans hz9) (by decide)) hf
      have hf := q_in (fun hz9 => absurd (hx9.symm.trans hz9) (by decide)) hf
      have hf := q_in (fun hz9 => absurd (hx9.symm.trans hz9) (by decide)) hf
      have hf := q_in (fun hz9 => absurd (hx9.symm.trans hz9) (by decide)) hf
      have hf := q_in (fun hz9 => absurd (hx9.symm.trans hz9) (by decide)) hf
      have hf := q_in (fun hz9 => absurd (hx9.symm.trans hz9) (by decide)) hf
      have hf := q_in (fun hz9 => absurd (hx9.symm.trans hz9) (by decide)) hf
      have hf := q_in (fun hz9 => absurd (hx9.symm.trans hz9) (by decide)) hf
      have hf := q_in (fun hz9 => absurd (hx9.symm.trans hz9) (by decide)) hf
      have hf := q_in (fun hz9 => absurd (hx9.symm.trans hz9) (by decide)) hf
      have hf := q_in (fun hz9 => absurd (hx9.symm.trans hz9) (by decide)) hf
      have hf := q_ip hx9 hf
      refine q_blk 1 [] (c' := q_kc (t, r, m, z, N, ext, rx, L) I E 9 [some (.int x0)] [.int (-1 : Int32)] [] []) ok_X15_taken rfl q_cn ?_
      cases hf
      exact q_kri ok_X15_taken rfl rfl rfl (Nat.le_of_ble_eq_true rfl) (Nat.le_of_ble_eq_true rfl) ⟨rfl, q_hpe (q_fin [] rfl) (q_fin [] rfl)⟩
    | 23, ht9 =>
      have hx9 : x0 = 28 := hx9
      cases ht9
      have hf := q_in (fun hz9 => absurd (hx9.symm.trans hz9) (by decide)) hf
      have hf := q_in (fun hz9 => absurd (hx9.symm.trans hz9) (by decide)) hf
      have hf := q_in (fun hz9 => absurd (hx9.symm.trans hz9) (by decide)) hf
      have hf := q_in (fun hz9 => absurd (hx9.symm.trans hz9) (by decide)) hf
      have hf := q_in (fun hz9 => absurd (hx9.symm.trans hz9) (by decide)) hf
      have hf := q_in (fun hz9 => absurd (hx9.symm.trans hz9) (by decide)) hf
      have hf := q_in (fun hz9 => absurd (hx9.symm.trans hz9) (by decide)) hf
      have hf := q_in (fun hz9 => absurd (hx9.symm.trans hz9) (by decide)) hf
      have hf := q_in (fun hz9 => absurd (hx9.symm.trans hz9) (by decide)) hf
      have hf := q_in (fun hz9 => absurd (hx9.symm.trans hz9) (by decide)) hf
      have hf := q_in (fun hz9 => absurd (hx9.symm.trans hz9) (by decide)) hf
      have hf := q_in (fun hz9 => absurd (hx9.symm.trans hz9) (by decide)) hf
      have hf := q_in (fun hz9 => absurd (hx9.symm.trans hz9) (by decide)) hf
      have hf := q_in (fun hz9 => absurd (hx9.symm.trans hz9) (by decide)) hf
      have hf := q_in (fun hz9 => absurd (hx9.symm.trans hz9) (by decide)) hf
      have hf := q_in (fun hz9 => absurd (hx9.symm.trans hz9) (by decide)) hf
      have hf := q_in (fun hz9 => absurd (hx9.symm.trans hz9) (by decide)) hf
      have hf := q_in (fun hz9 => absurd (hx9.symm.trans hz9) (by decide)) hf
      have hf := q_in (fun hz9 => absurd (hx9.symm.trans hz9) (by decide)) hf
      have hf := q_in (fun hz9 => absurd (hx9.symm.trans hz9) (by decide)) hf
      have hf := q_in (fun hz9 => absurd (hx9.symm.trans hz9) (by decide)) hf
      have hf := q_in (fun hz9 => absurd (hx9.symm.trans hz9) (by decide)) hf
      have hf := q_in (fun hz9 => absurd (hx9.symm.trans hz9) (by decide)) hf
      have hf := q_ip hx9 hf
      refine q_blk 1 [] (c' := q_kc (t, r, m, z, N, ext, rx, L) I E 9 [some (.int x0)] [.int (-1 : Int32)] [] []) ok_X15_taken rfl q_cn ?_
      cases hf
      exact q_kri ok_X15_taken rfl rfl rfl (Nat.le_of_ble_eq_true rfl) (Nat.le_of_ble_eq_true rfl) ⟨rfl, q_hpe (q_fin [] rfl) (q_fin [] rfl)⟩
    | 24, ht9 =>
      have hx9 : x0 = 29 := hx9
      cases ht9
      have hf := q_in (fun hz9 => absurd (hx9.symm.trans hz9) (by decide)) hf
      have hf := q_in (fun hz9 => absurd (hx9.symm.trans hz9) (by decide)) hf
      have hf := q_in (fun hz9 => absurd (hx9.symm.trans hz9) (by decide)) hf
      have hf := q_in (fun hz9 => absurd (hx9.symm.trans hz9) (by decide)) hf
      have hf := q_in (fun hz9 => absurd (hx9.symm.trans hz9) (by decide)) hf
      have hf := q_in (fun hz9 => absurd (hx9.symm.trans hz9) (by decide)) hf
      have hf := q_in (fun hz9 => absurd (hx9.symm.trans hz9) (by decide)) hf
      have hf := q_in (fun hz9 => absurd (hx9.symm.trans hz9) (by decide)) hf
      have hf := q_in (fun hz9 => absurd (hx9.symm.trans hz9) (by decide)) hf
      have hf := q_in (fun hz9 => absurd (hx9.symm.trans hz9) (by decide)) hf
      have hf := q_in (fun hz9 => absurd (hx9.symm.trans hz9) (by decide)) hf
      have hf := q_in (fun hz9 => absurd (hx9.symm.trans hz9) (by decide)) hf
      have hf := q_in (fun hz9 => absurd (hx9.symm.trans hz9) (by decide)) hf
      have hf := q_in (fun hz9 => absurd (hx9.symm.trans hz9) (by decide)) hf
      have hf := q_in (fun hz9 => absurd (hx9.symm.trans hz9) (by decide)) hf
      have hf := q_in (fun hz9 => absurd (hx9.symm.trans hz9) (by decide)) hf
      have hf := q_in (fun hz9 => absurd (hx9.symm.trans hz9) (by decide)) hf
      have hf := q_in (fun hz9 => absurd (hx9.symm.trans hz9) (by decide)) hf
      have hf := q_in (fun hz9 => absurd (hx9.symm.trans hz9) (by decide)) hf
      have hf := q_in (fun hz9 => absurd (hx9.symm.trans hz9) (by decide)) hf
      have hf := q_in (fun hz9 => absurd (hx9.symm.trans hz9) (by decide)) hf
      have hf := q_in (fun hz9 => absurd (hx9.symm.trans hz9) (by decide)) hf
      have hf := q_in (fun hz9 => absurd (hx9.symm.trans hz9) (by decide)) hf
      have hf := q_in (fun hz9 => absurd (hx9.symm.trans hz9) (by decide)) hf
      have hf := q_ip hx9 hf
      refine q_blk 1 [] (c' := q_kc (t, r, m, z, N, ext, rx, L) I E 9 [some (.int x0)] [.int (-1 : Int32)] [] []) ok_X15_taken rfl q_cn ?_
      cases hf
      exact q_kri ok_X15_taken rfl rfl rfl (Nat.le_of_ble_eq_true rfl) (Nat.le_of_ble_eq_true rfl) ⟨rfl, q_hpe (q_fin [] rfl) (q_fin [] rfl)⟩
    | 25, ht9 =>
      have hx9 : x0 = 30 := hx9
      cases ht9
      have hf := q_in (fun hz9 => absurd (hx9.symm.trans hz9) (by decide)) hf
      have hf := q_in (fun hz9 => absurd (hx9.symm.trans hz9) (by decide)) hf
      have hf := q_in (fun hz9 => absurd (hx9.symm.trans hz9) (by decide)) hf
      have hf := q_in (fun hz9 => absurd (hx9.symm.trans hz9) (by decide)) hf
      have hf := q_in (fun hz9 => absurd (hx9.symm.trans hz9) (by decide)) hf
      have hf := q_in (fun hz9 => absurd (hx9.symm.trans hz9) (by decide)) hf
      have hf := q_in (fun hz9 => absurd (hx9.symm.trans hz9) (by decide)) hf
      have hf := q_in (fun hz9 => absurd (hx9.symm.trans hz9) (by decide)) hf
      have hf := q_in (fun hz9 => absurd (hx9.symm.trans hz9) (by decide)) hf
      have hf := q_in (fun hz9 => absurd (hx9.symm.trans hz9) (by decide)) hf
      have hf := q_in (fun hz9 => absurd (hx9.symm.trans hz9) (by decide)) hf
      have hf := q_in (fun hz9 => absurd (hx9.symm.trans hz9) (by decide)) hf
      have hf := q_in (fun hz9 => absurd (hx9.symm.trans hz9) (by decide)) hf
      have hf := q_in (fun hz9 => absurd (hx9.symm.trans hz9) (by decide)) hf
      have hf := q_in (fun hz9 => absurd (hx9.symm.trans hz9) (by decide)) hf
      have hf := q_in (fun hz9 => absurd (hx9.symm.trans hz9) (by decide)) hf
      have hf := q_in (fun hz9 => absurd (hx9.symm.trans hz9) (by decide)) hf
      have hf := q_in (fun hz9 => absurd (hx9.symm.trans hz9) (by decide)) hf
      have hf := q_in (fun hz9 => absurd (hx9.symm.trans hz9) (by decide)) hf
      have hf := q_in (fun hz9 => absurd (hx9.symm.trans hz9) (by decide)) hf
      have hf := q_in (fun hz9 => absurd (hx9.symm.trans hz9) (by decide)) hf
      have hf := q_in (fun hz9 => absurd (hx9.symm.trans hz9) (by decide)) hf
      have hf := q_in (fun hz9 => absurd (hx9.symm.trans hz9) (by decide)) hf
      have hf := q_in (fun hz9 => absurd (hx9.symm.trans hz9) (by decide)) hf
      have hf := q_in (fun hz9 => absurd (hx9.symm.trans hz9) (by decide)) hf
      have hf := q_ip hx9 hf
      refine q_blk 1 [] (c' := q_kc (t, r, m, z, N, ext, rx, L) I E 9 [some (.int x0)] [.int (-1 : Int32)] [] []) ok_X15_taken rfl q_cn ?_
      cases hf
      exact q_kri ok_X15_taken rfl rfl rfl (Nat.le_of_ble_eq_true rfl) (Nat.le_of_ble_eq_true rfl) ⟨rfl, q_hpe (q_fin [] rfl) (q_fin [] rfl)⟩
    | 26, ht9 =>
      have hx9 : x0 = 31 := hx9
      cases ht9
      have hf := q_in (fun hz9 => absurd (hx9.symm.trans hz9) (by decide)) hf
      have hf := q_in (fun hz9 => absurd (hx9.symm.trans hz9) (by decide)) hf
      have hf := q_in (fun hz9 => absurd (hx9.symm.trans hz9) (by decide)) hf
      have hf := q_in (fun hz9 => absurd (hx9.symm.trans hz9) (by decide)) hf
      have hf := q_in (fun hz9 => absurd (hx9.symm.trans hz9) (by decide)) hf
      have hf := q_in (fun hz9 => absurd (hx9.symm.trans hz9) (by decide)) hf
      have hf := q_in (fun hz9 => absurd (hx9.symm.trans hz9) (by decide)) hf
      have hf := q_in (fun hz9 => absurd (hx9.symm.trans hz9) (by decide)) hf
      have hf := q_in (fun hz9 => absurd (hx9.symm.trans hz9) (by decide)) hf
      have hf := q_in (fun hz9 => absurd (hx9.symm.trans hz9) (by decide)) hf
      have hf := q_in (fun hz9 => absurd (hx9.symm.trans hz9) (by decide)) hf
      have hf := q_in (fun hz9 => absurd (hx9.symm.trans hz9) (by decide)) hf
      have hf := q_in (fun hz9 => absurd (hx9.symm.trans hz9) (by decide)) hf
      have hf := q_in (fun hz9 => absurd (hx9.symm.trans hz9) (by decide)) hf
      have hf := q_in (fun hz9 => absurd (hx9.symm.trans hz9) (by decide)) hf
      have hf := q_in (fun hz9 => absurd (hx9.symm.trans hz9) (by decide)) hf
      have hf := q_in (fun hz9 => absurd (hx9.symm.trans hz9) (by decide)) hf
      have hf := q_in (fun hz9 => absurd (hx9.symm.trans hz9) (by decide)) hf
      have hf := q_in (fun hz9 => absurd (hx9.symm.trans hz9) (by decide)) hf
      have hf := q_in (fun hz9 => absurd (hx9.symm.trans hz9) (by decide)) hf
      have hf := q_in (fun hz9 => absurd (hx9.symm.trans hz9) (by decide)) hf
      have hf := q_in (fun hz9 => absurd (hx9.symm.trans hz9) (by decide)) hf
      have hf := q_in (fun hz9 => absurd (hx9.symm.trans hz9) (by decide)) hf
      have hf := q_in (fun hz9 => absurd (hx9.symm.trans hz9) (by decide)) hf
      have hf := q_in (fun hz9 => absurd (hx9.symm.trans hz9) (by decide)) hf
      have hf := q_in (fun hz9 => absurd (hx9.symm.trans hz9) (by decide)) hf
      have hf := q_ip hx9 hf
      refine q_blk 1 [] (c' := q_kc (t, r, m, z, N, ext, rx, L) I E 9 [some (.int x0)] [.int (-1 : Int32)] [] []) ok_X15_taken rfl q_cn ?_
      cases hf
      exact q_kri ok_X15_taken rfl rfl rfl (Nat.le_of_ble_eq_true rfl) (Nat.le_of_ble_eq_true rfl) ⟨rfl, q_hpe (q_fin [] rfl) (q_fin [] rfl)⟩
    | 27, ht9 =>
      have hx9 : x0 = 32 := hx9
      cases ht9
      have hf := q_in (fun hz9 => absurd (hx9.symm.trans hz9) (by decide)) hf
      have hf := q_in (fun hz9 => absurd (hx9.symm.trans hz9) (by decide)) hf
      have hf := q_in (fun hz9 => absurd (hx9.symm.trans hz9) (by decide)) hf
      have hf := q_in (fun hz9 => absurd (hx9.symm.trans hz9) (by decide)) hf
      have hf := q_in (fun hz9 => absurd (hx9.symm.trans hz9) (by decide)) hf
      have hf := q_in (fun hz9 => absurd (hx9.symm.trans hz9) (by decide)) hf
      have hf := q_in (fun hz9 => absurd (hx9.symm.trans hz9) (by decide)) hf
      have hf := q_in (fun hz9 => absurd (hx9.symm.trans hz9) (by decide)) hf
      have hf := q_in (fun hz9 => absurd (hx9.symm.trans hz9) (by decide)) hf
      have hf := q_in (fun hz9 => absurd (hx9.symm.trans hz9) (by decide)) hf
      have hf := q_in (fun hz9 => absurd (hx9.symm.trans hz9) (by decide)) hf
      have hf := q_in (fun hz9 => absurd (hx9.symm.trans hz9) (by decide)) hf
      have hf := q_in (fun hz9 => absurd (hx9.symm.trans hz9) (by decide)) hf
      have hf := q_in (fun hz9 => absurd (hx9.symm.trans hz9) (by decide)) hf
      have hf := q_in (fun hz9 => absurd (hx9.symm.trans hz9) (by decide)) hf
      have hf := q_in (fun hz9 => absurd (hx9.symm.trans hz9) (by decide)) hf
      have hf := q_in (fun hz9 => absurd (hx9.symm.trans hz9) (by decide)) hf
      have hf := q_in (fun hz9 => absurd (hx9.symm.trans hz9) (by decide)) hf
      have hf := q_in (fun hz9 => absurd (hx9.symm.trans hz9) (by decide)) hf
      have hf := q_in (fun hz9 => absurd (hx9.symm.trans hz9) (by decide)) hf
      have hf := q_in (fun hz9 => absurd (hx9.symm.trans hz9) (by decide)) hf
      have hf := q_in (fun hz9 => absurd (hx9.symm.trans hz9) (by decide)) hf
      have hf := q_in (fun hz9 => absurd (hx9.symm.trans hz9) (by decide)) hf
      have hf := q_in (fun hz9 => absurd (hx9.symm.trans hz9) (by decide)) hf
      have hf := q_in (fun hz9 => absurd (hx9.symm.trans hz9) (by decide)) hf
      have hf := q_in (fun hz9 => absurd (hx9.symm.trans hz9) (by decide)) hf
      have hf := q_in (fun hz9 => absurd (hx9.symm.trans hz9) (by decide)) hf
      have hf := q_ip hx9 hf
      refine q_blk 1 [] (c' := q_kc (t, r, m, z, N, ext, rx, L) I E 5 [some (.int x0)] [.int (1 : Int32)] [] []) ok_X15_taken rfl q_cn ?_
      cases hf
      exact q_kri ok_X15_taken rfl rfl rfl (Nat.le_of_ble_eq_true rfl) (Nat.le_of_ble_eq_true rfl) ⟨rfl, q_hpe (q_fin [] rfl) (q_fin [] rfl)⟩
    | z9 + 28, ht9 => cases ht9
  · have hf := q_in (hx9 0 (by decide)) hf
    have hf := q_in (hx9 1 (by decide)) hf
    have hf := q_in (hx9 2 (by decide)) hf
    have hf := q_in (hx9 3 (by decide)) hf
    have hf := q_in (hx9 4 (by decide)) hf
    have hf := q_in (hx9 5 (by decide)) hf
    have hf := q_in (hx9 6 (by decide)) hf
    have hf := q_in (hx9 7 (by decide)) hf
    have hf := q_in (hx9 8 (by decide)) hf
    have hf := q_in (hx9 9 (by decide)) hf
    have hf := q_in (hx9 10 (by decide)) hf
    have hf := q_in (hx9 11 (by decide)) hf
    have hf := q_in (hx9 12 (by decide)) hf
    have hf := q_in (hx9 13 (by decide)) hf
    have hf := q_in (hx9 14 (by decide)) hf
    have hf := q_in (hx9 15 (by decide)) hf
    have hf := q_in (hx9 16 (by decide)) hf
    have hf := q_in (hx9 17 (by decide)) hf
    have hf := q_in (hx9 18 (by decide)) hf
    have hf := q_in (hx9 19 (by decide)) hf
    have hf := q_in (hx9 20 (by decide)) hf
    have hf := q_in (hx9 21 (by decide)) hf
    have hf := q_in (hx9 22 (by decide)) hf
    have hf := q_in (hx9 23 (by decide)) hf
    have hf := q_in (hx9 24 (by decide)) hf
    have hf := q_in (hx9 25 (by decide)) hf
    have hf := q_in (hx9 26 (by decide)) hf
    have hf := q_in (hx9 27 (by decide)) hf
    refine q_blk 1 [] (c' := q_kc (t, r, m, z, N, ext, rx, L) I E 9 [some (.int x0)] [.int (-1 : Int32)] [] []) ok_X15_taken rfl q_cn ?_
    cases hf
    exact q_kri ok_X15_taken rfl rfl rfl (Nat.le_of_ble_eq_true rfl) (Nat.le_of_ble_eq_true rfl) ⟨rfl, q_hpe (q_fin [] rfl) (q_fin [] rfl)⟩
