set_option maxHeartbeats 4000000 in
theorem ct_X11_valueOf_452 {g : q_G} {t : Nat} {r : Nat} {m : Nat} {z : Nat} {N : Nat} {ext : Nat → q_Sh} {rx : Nat → Nat → Option Nat} {L : Nat → Nat → Int64} {d : Nat} (hd : 4 ≤ d)  {I : Nat → Nat → Int32} {E : Nat → Nat → Option Nat} {x1 : Nat} {x2 : Int32} {x3 : Int32} {r0 : Int32} (hf : f_X11_valueOf (I 401) (I 452) (I 454) (I 455) (E 453) x1 x2 x3 = some r0) : q_Ct g m_X11_valueOf d 0 0 [] [.ref 452, .ref x1, .int x2, .int x3] (q_hp (t, r, m, z, N, ext, rx, L) I E) (fun o h' => o = .inl (some (.int r0)) ∧ h' = q_hp (t, r, m, z, N, ext, rx, L) (q_ws I []) (q_ws E [])) := by
  rw [f_X11_valueOf] at hf
  refine q_Ct_of ok_X11_valueOf (Nat.le_of_ble_eq_true rfl) ?_ _ rfl rfl
  change q_J g m_X11_valueOf d 0 0 _ [] _ 0 0 (q_kc (t, r, m, z, N, ext, rx, L) I E 0 [some (.ref 452), some (.ref x1), some (.int x2), some (.int x3)] [] [] [])
  obtain ⟨ug1, hg1, hf⟩ := q_bd hf
  refine q_blk 2 [] (c' := q_kc (t, r, m, z, N, ext, rx, L) I E 2 [some (.ref 452), some (.ref x1), some (.int x2), some (.int x3)] [.ref 2, .ref x1] [] []) ok_X11_valueOf rfl q_cn ?_
  refine q_o_acmp_ne ok_X11_valueOf rfl (q_e49_lt hg1) (Nat.lt_of_lt_of_le (Nat.lt_succ_self _) (Nat.le_of_ble_eq_true rfl)) (fun h1 => ?_) (fun h1 => ?_)
  · have hf := q_in h1 hf
    refine q_blk 2 [] (c' := q_kc (t, r, m, z, N, ext, rx, L) I E 10 [some (.ref 452), some (.ref x1), some (.int x2), some (.int x3)] [.ref 3, .ref x1] [] []) ok_X11_valueOf rfl q_cn ?_
    refine q_o_acmp_ne ok_X11_valueOf rfl (q_e49_lt hg1) (Nat.lt_of_lt_of_le (Nat.lt_succ_self _) (Nat.le_of_ble_eq_true rfl)) (fun h3 => ?_) (fun h3 => ?_)
    · have hf := q_in h3 hf
      refine q_blk 1 [] (c' := q_kc (t, r, m, z, N, ext, rx, L) I E 17 [some (.ref 452), some (.ref x1), some (.int x2), some (.int x3)] [.int (0 : Int32)] [] []) ok_X11_valueOf rfl q_cn ?_
      cases hf
      exact q_kri ok_X11_valueOf rfl rfl rfl (Nat.le_of_ble_eq_true rfl) (Nat.le_of_ble_eq_true rfl) ⟨rfl, q_hpe (q_pdw [] rfl rfl) (q_pdw [] rfl rfl)⟩
    · have hf := q_ip h3 hf
      refine q_blk 3 [] (c' := q_kc (t, r, m, z, N, ext, rx, L) I E 14 [some (.ref 452), some (.ref x1), some (.int x2), some (.int x3)] [.int x3, .int x2, .ref 452] [] []) ok_X11_valueOf rfl q_cn ?_
      obtain ⟨r4, hr4, hf⟩ := q_bd hf
      refine q_kV (M2 := m_X11_firstLike) (As := [.int x2, .int x3]) (b := 452) (v2 := some (.int r4)) ok_X11_valueOf ok_X11_firstLike cv_X11_firstLike (ct_X11_firstLike_452 (d := 3) (Nat.le_refl _) hr4) rfl rfl (Or.inl rfl) rfl rfl rfl rfl (Nat.le_trans (Nat.le_of_ble_eq_true rfl) hd) (Nat.le_of_ble_eq_true rfl) (Nat.le_of_ble_eq_true rfl) (Nat.le_of_ble_eq_true rfl) (fun x hx => absurd hx List.not_mem_nil) (q_nmL0 _) (q_nmS0 _) rfl (pos' := 15) (st' := [.int r4]) (lI' := []) (lE' := []) rfl rfl rfl rfl ?_
      refine q_blk 1 [] (c' := q_kc (t, r, m, z, N, ext, rx, L) I E 17 [some (.ref 452), some (.ref x1), some (.int x2), some (.int x3)] [.int r4] [] []) ok_X11_valueOf rfl q_cn ?_
      cases hf
      exact q_kri ok_X11_valueOf rfl rfl rfl (Nat.le_of_ble_eq_true rfl) (Nat.le_of_ble_eq_true rfl) ⟨rfl, q_hpe (q_pdw [] rfl rfl) (q_pdw [] rfl rfl)⟩
  · have hf := q_ip h1 hf
    refine q_blk 3 [] (c' := q_kc (t, r, m, z, N, ext, rx, L) I E 6 [some (.ref 452), some (.ref x1), some (.int x2), some (.int x3)] [.int x3, .int x2, .ref 452] [] []) ok_X11_valueOf rfl q_cn ?_
    obtain ⟨r2, hr2, hf⟩ := q_bd hf
    refine q_kV (M2 := m_X11_numberAt) (As := [.int x2, .int x3]) (b := 452) (v2 := some (.int r2)) ok_X11_valueOf ok_X11_numberAt cv_X11_numberAt (ct_X11_numberAt_452 (d := 2) (Nat.le_refl _) hr2) rfl rfl (Or.inl rfl) rfl rfl rfl rfl (Nat.le_trans (Nat.le_of_ble_eq_true rfl) hd) (Nat.le_of_ble_eq_true rfl) (Nat.le_of_ble_eq_true rfl) (Nat.le_of_ble_eq_true rfl) (fun x hx => absurd hx List.not_mem_nil) (q_nmL0 _) (q_nmS0 _) rfl (pos' := 7) (st' := [.int r2]) (lI' := []) (lE' := []) rfl rfl rfl rfl ?_
    cases hf
    exact q_kri ok_X11_valueOf rfl rfl rfl (Nat.le_of_ble_eq_true rfl) (Nat.le_of_ble_eq_true rfl) ⟨rfl, q_hpe (q_pdw [] rfl rfl) (q_pdw [] rfl rfl)⟩
set_option maxHeartbeats 4000000 in
theorem ct_X11_add_452 {g : q_G} {t : Nat} {r : Nat} {m : Nat} {z : Nat} {N : Nat} {ext : Nat → q_Sh} {rx : Nat → Nat → Option Nat} {L : Nat → Nat → Int64} {d : Nat} (hd : 5 ≤ d)  {I : Nat → Nat → Int32} {E : Nat → Nat → Option Nat} {x1 : Nat} {x2 : Int32} {x3 : Int32} {r0 : (Nat → Int32) × (Nat → Int32) × (Nat → Int32) × (Nat → Int32) × (Nat → Option Nat)} (hf : f_X11_add (I 401) (I 452) (I 454) (I 455) (I 456) (E 453) x1 x2 x3 = some r0) : q_Ct g m_X11_add d 0 0 [] [.ref 452, .ref x1, .int x2, .int x3] (q_hp (t, r, m, z, N, ext, rx, L) I E) (fun o h' => o = .inl none ∧ h' = q_hp (t, r, m, z, N, ext, rx, L) (q_ws I [(452, r0.1), (454, r0.2.1), (455, r0.2.2.1), (456, r0.2.2.2.1)]) (q_ws E [(453, r0.2.2.2.2)])) := by
  rw [f_X11_add] at hf
  refine q_Ct_of ok_X11_add (Nat.le_of_ble_eq_true rfl) ?_ _ rfl rfl
  change q_J g m_X11_add d 0 0 _ [] _ 0 0 (q_kc (t, r, m, z, N, ext, rx, L) I E 0 [some (.ref 452), some (.ref x1), some (.int x2), some (.int x3)] [] [] [])
  obtain ⟨ug1, hg1, hf⟩ := q_bd hf
  refine q_blf 2 [] (a := q_kc (t, r, m, z, N, ext, rx, L) I E 41 [some (.ref 452), some (.ref x1), some (.int x2), some (.int x3)] [] [] []) (b := q_kc (t, r, m, z, N, ext, rx, L) I E 3 [some (.ref 452), some (.ref x1), some (.int x2), some (.int x3)] [] [] []) (P := ((I 452) 6) < 0) ok_X11_add rfl q_cn (fun h1 => ?_) (fun h1 => ?_)
  · have hf := q_ip h1 hf
    cases hf
    exact q_krv ok_X11_add rfl rfl (Nat.le_of_ble_eq_true rfl) (Nat.le_of_ble_eq_true rfl) ⟨rfl, q_hpe (q_pdw [452, 454, 455, 456] rfl rfl) (q_pdw [453] rfl rfl)⟩
  · have hf := q_in h1 hf
    refine q_blf 3 [] (a := q_kc (t, r, m, z, N, ext, rx, L) I E 41 [some (.ref 452), some (.ref x1), some (.int x2), some (.int x3)] [] [] []) (b := q_kc (t, r, m, z, N, ext, rx, L) I E 7 [some (.ref 452), some (.ref x1), some (.int x2), some (.int x3)] [] [] []) (P := (400 : Int32) < ((I 452) 6)) ok_X11_add rfl q_cn (fun h2 => ?_) (fun h2 => ?_)
    · have hf := q_ip h2 hf
      cases hf
      exact q_krv ok_X11_add rfl rfl (Nat.le_of_ble_eq_true rfl) (Nat.le_of_ble_eq_true rfl) ⟨rfl, q_hpe (q_pdw [452, 454, 455, 456] rfl rfl) (q_pdw [453] rfl rfl)⟩
    · have hf := q_in h2 hf
      obtain ⟨j3, hj3, hf⟩ := q_bd hf
      refine q_blk 5 [] (c' := q_kc (t, r, m, z, N, ext, rx, L) I E 12 [some (.ref 452), some (.ref x1), some (.int x2), some (.int x3)] [.ref x1, .int ((I 452) 6), .ref 453] [] []) ok_X11_add rfl q_cn ?_
      refine q_kaS (pos' := 13) (lE' := [(453, (q_up (E 453) j3 (some x1)))]) ok_X11_add rfl rfl rfl hj3 rfl (q_e49_lt hg1) rfl rfl ?_
      obtain ⟨j4, hj4, hf⟩ := q_bd hf
      obtain ⟨j5, hj5, hf⟩ := q_bd hf
      refine q_blk 20 [j4, j5] (c' := q_kc (t, r, m, z, N, ext, rx, L) I E 33 [some (.ref 452), some (.ref x1), some (.int x2), some (.int x3)] [.int x3, .int x2, .ref x1, .ref 452, .int ((I 452) 6), .ref 456] [(454, (q_up (I 454) j4 x2)), (455, (q_up (I 455) j5 x3))] [(453, (q_up (E 453) j3 (some x1)))]) ok_X11_add rfl (q_cc hj5 (q_cc hj4 q_cn)) ?_
      obtain ⟨r6, hr6, hf⟩ := q_bd hf
      refine q_kV (M2 := m_X11_valueOf) (As := [.ref x1, .int x2, .int x3]) (b := 452) (v2 := some (.int r6)) ok_X11_add ok_X11_valueOf cv_X11_valueOf (ct_X11_valueOf_452 (d := 4) (Nat.le_refl _) hr6) rfl rfl (Or.inl rfl) rfl rfl rfl rfl (Nat.le_trans (Nat.le_of_ble_eq_true rfl) hd) (Nat.le_of_ble_eq_true rfl) (Nat.le_of_ble_eq_true rfl) (Nat.le_of_ble_eq_true rfl) (fun x hx => absurd hx List.not_mem_nil) (q_nmL0 _) (q_nmS0 _) rfl (pos' := 34) (st' := [.int r6, .int ((I 452) 6), .ref 456]) (lI' := [(454, (q_up (I 454) j4 x2)), (455, (q_up (I 455) j5 x3))]) (lE' := [(453, (q_up (E 453) j3 (some x1)))]) rfl rfl rfl rfl ?_
      obtain ⟨j7, hj7, hf⟩ := q_bd hf
      refine q_blk 7 [j7] (c' := q_kc (t, r, m, z, N, ext, rx, L) I E 41 [some (.ref 452), some (.ref x1), some (.int x2), some (.int x3)] [] [(452, (q_up (I 452) 6 (((I 452) 6) + (1 : Int32)))), (454, (q_up (I 454) j4 x2)), (455, (q_up (I 455) j5 x3)), (456, (q_up (I 456) j7 r6))] [(453, (q_up (E 453) j3 (some x1)))]) ok_X11_add rfl (q_cc hj7 q_cn) ?_
      cases hf
      exact q_krv ok_X11_add rfl rfl (Nat.le_of_ble_eq_true rfl) (Nat.le_of_ble_eq_true rfl) ⟨rfl, q_hpe (q_pdw [452, 454, 455, 456] rfl rfl) (q_pdw [453] rfl rfl)⟩
set_option maxHeartbeats 4000000 in
theorem lp_X11_split_L12_452 {g : q_G} {d mc ms : Nat} {h0 : q_H} {Q : (Option Value ⊕ String) → q_H → Prop} {k n : Nat} {t : Nat} {r : Nat} {m : Nat} {z : Nat} {N : Nat} {ext : Nat → q_Sh} {rx : Nat → Nat → Option Nat} {L : Nat → Nat → Int64} (hd : 12 ≤ d) (hk : k ≤ mc) (hn : n ≤ ms)  : ∀ (fu : Nat) {I : Nat → Nat → Int32} {E : Nat → Nat → Option Nat} {v2 : Int32} {v3 : Int32} {r0 : Nat × Int32 × (Nat → Int32) × (Nat → Int32) × (Nat → Int32) × (Nat → Int32) × (Nat → Option Nat)} (hf : f_X11_split_L12 (I 401) fu (I 452) (I 454) (I 455) (I 456) (E 453) v2 v3 = some r0) (hK0 : r0.1 = 0 → q_J g m_X11_split d mc ms h0 [] Q k n (q_kc (t, r, m, z, N, ext, rx, L) I E 42 [some (.ref 452), none, some (.int r0.2.1), none, none] [] [(452, r0.2.2.1), (454, r0.2.2.2.1), (455, r0.2.2.2.2.1), (456, r0.2.2.2.2.2.1)] [(453, r0.2.2.2.2.2.2)])) (hK1 : r0.1 = 1 → q_J g m_X11_split d mc ms h0 [] Q k n (q_kc (t, r, m, z, N, ext, rx, L) I E 25 [some (.ref 452), none, some (.int r0.2.1), none, none] [] [(452, r0.2.2.1), (454, r0.2.2.2.1), (455, r0.2.2.2.2.1), (456, r0.2.2.2.2.2.1)] [(453, r0.2.2.2.2.2.2)])), q_J g m_X11_split d mc ms h0 [] Q k n (12, [some (.ref 452), none, some (.int v2), some (.int v3), none], [], q_hp (t, r, m, z, N, ext, rx, L) I E) := by
  intro fu
  induction fu with
  | zero =>
    intro I E v2 v3 r0 hf hK0 hK1
    rw [f_X11_split_L12] at hf
    cases hf
  | succ fu ih =>
    intro I E v2 v3 r0 hf hK0 hK1
    rw [f_X11_split_L12] at hf
    change q_J g m_X11_split d mc ms h0 [] Q k n (q_kc (t, r, m, z, N, ext, rx, L) I E 12 [some (.ref 452), none, some (.int v2), some (.int v3), none] [] [] [])
    refine q_blf 2 [] (a := q_kc (t, r, m, z, N, ext, rx, L) I E 42 [some (.ref 452), none, some (.int v2), some (.int v3), none] [] [] []) (b := q_kc (t, r, m, z, N, ext, rx, L) I E 15 [some (.ref 452), none, some (.int v2), some (.int v3), none] [] [] []) (P := (400 : Int32) ≤ v3) ok_X11_split rfl q_cn (fun h1 => ?_) (fun h1 => ?_)
    · have hf := q_ip h1 hf
      refine q_less (ls' := [some (.ref 452), none, some (.int v2), none, none]) (q_sb2 (q_sb1 (q_sb2 (q_sb1 (q_sb1 q_sb0))))) ?_
      cases hf
      exact q_Jpad (q_pdw [452, 454, 455, 456] rfl rfl) (q_pdw [453] rfl rfl) (hK0 rfl)
    · have hf := q_in h1 hf
      refine q_blf 3 [] (a := q_kc (t, r, m, z, N, ext, rx, L) I E 42 [some (.ref 452), none, some (.int v2), some (.int v3), none] [] [] []) (b := q_kc (t, r, m, z, N, ext, rx, L) I E 19 [some (.ref 452), none, some (.int v2), some (.int v3), none] [] [] []) (P := ((I 452) 5) ≤ v2) ok_X11_split rfl q_cn (fun h2 => ?_) (fun h2 => ?_)
      · have hf := q_ip h2 hf
        refine q_less (ls' := [some (.ref 452), none, some (.int v2), none, none]) (q_sb2 (q_sb1 (q_sb2 (q_sb1 (q_sb1 q_sb0))))) ?_
        cases hf
        exact q_Jpad (q_pdw [452, 454, 455, 456] rfl rfl) (q_pdw [453] rfl rfl) (hK0 rfl)
      · have hf := q_in h2 hf
        refine q_blk 2 [] (c' := q_kc (t, r, m, z, N, ext, rx, L) I E 21 [some (.ref 452), none, some (.int v2), some (.int v3), none] [.int v2, .ref 452] [] []) ok_X11_split rfl q_cn ?_
        obtain ⟨r3, hr3, hf⟩ := q_bd hf
        refine q_kV (M2 := m_X11_tokenLength) (As := [.int v2]) (b := 452) (v2 := some (.int r3)) ok_X11_split ok_X11_tokenLength cv_X11_tokenLength (ct_X11_tokenLength_452 (d := 11) (Nat.le_refl _) hr3) rfl rfl (Or.inl rfl) rfl rfl rfl rfl (Nat.le_trans (Nat.le_of_ble_eq_true rfl) hd) hk hn (Nat.le_of_ble_eq_true rfl) (fun x hx => absurd hx List.not_mem_nil) (q_nmL0 _) (q_nmS0 _) rfl (pos' := 22) (st' := [.int r3]) (lI' := []) (lE' := []) rfl rfl rfl rfl ?_
        refine q_blf 2 [] (a := q_kc (t, r, m, z, N, ext, rx, L) I E 26 [some (.ref 452), none, some (.int v2), some (.int v3), some (.int r3)] [] [] []) (b := q_kc (t, r, m, z, N, ext, rx, L) I E 25 [some (.ref 452), none, some (.int v2), some (.int v3), some (.int r3)] [] [] []) (P := ¬ r3 = 0) ok_X11_split rfl q_cn (fun h4 => ?_) (fun h4 => ?_)
        · have hf := q_ip h4 hf
          refine q_blk 4 [] (c' := q_kc (t, r, m, z, N, ext, rx, L) I E 30 [some (.ref 452), none, some (.int v2), some (.int v3), some (.int r3)] [.int r3, .int v2, .ref 452, .ref 452] [] []) ok_X11_split rfl q_cn ?_
          obtain ⟨r5, hr5, hf⟩ := q_bd hf
          obtain ⟨u6, hu7, hf⟩ := q_bd hf
          refine q_kV (M2 := m_X11_tokenSign) (As := [.int v2, .int r3]) (b := 452) (v2 := some (.ref r5)) ok_X11_split ok_X11_tokenSign cv_X11_tokenSign (ct_X11_tokenSign_452 (d := 11) (Nat.le_refl _) hr5) rfl rfl (Or.inl rfl) rfl rfl rfl rfl (Nat.le_trans (Nat.le_of_ble_eq_true rfl) hd) hk hn (Nat.le_of_ble_eq_true rfl) (fun x hx => absurd hx List.not_mem_nil) (q_nmL0 _) (q_nmS0 _) rfl (pos' := 31) (st' := [.ref r5, .ref 452]) (lI' := []) (lE' := []) rfl rfl rfl rfl ?_
          refine q_blk 2 [] (c' := q_kc (t, r, m, z, N, ext, rx, L) I E 33 [some (.ref 452), none, some (.int v2), some (.int v3), some (.int r3)] [.int r3, .int v2, .ref r5, .ref 452] [] []) ok_X11_split rfl q_cn ?_
          obtain ⟨r8, hr8, hf⟩ := q_bd hf
          refine q_kV (M2 := m_X11_add) (As := [.ref r5, .int v2, .int r3]) (b := 452) (v2 := none) ok_X11_split ok_X11_add cv_X11_add (ct_X11_add_452 (d := 5) (Nat.le_refl _) hr8) rfl rfl (Or.inl rfl) rfl rfl rfl rfl (Nat.le_trans (Nat.le_of_ble_eq_true rfl) hd) hk hn (Nat.le_of_ble_eq_true rfl) (fun x hx => absurd hx List.not_mem_nil) (q_nmL0 _) (q_nmS0 _) rfl (pos' := 34) (st' := []) (lI' := [(452, r8.1), (454, r8.2.1), (455, r8.2.2.1), (456, r8.2.2.2.1)]) (lE' := [(453, r8.2.2.2.2)]) rfl rfl (q_mgw rfl rfl) (q_mgw rfl rfl) ?_
          refine q_blk 4 [] (c' := q_kc (t, r, m, z, N, ext, rx, L) I E 38 [some (.ref 452), none, some (.int v2), some (.int v3), some (.int r3)] [.int (v2 + r3), .ref 452] [(452, r8.1), (454, r8.2.1), (455, r8.2.2.1), (456, r8.2.2.2.1)] [(453, r8.2.2.2.2)]) ok_X11_split rfl q_cn ?_
          obtain ⟨r9, hr9, hf⟩ := q_bd hf
          refine q_kV (M2 := m_X11_behindBlanks) (As := [.int (v2 + r3)]) (b := 452) (v2 := some (.int r9)) ok_X11_split ok_X11_behindBlanks cv_X11_behindBlanks (ct_X11_behindBlanks_452 (d := 2) (Nat.le_refl _) hr9) rfl rfl (Or.inl rfl) rfl rfl rfl rfl (Nat.le_trans (Nat.le_of_ble_eq_true rfl) hd) hk hn (Nat.le_of_ble_eq_true rfl) (fun x hx => absurd hx List.not_mem_nil) (q_nmL0 _) (q_nmS0 _) rfl (pos' := 39) (st' := [.int r9]) (lI' := [(452, r8.1), (454, r8.2.1), (455, r8.2.2.1), (456, r8.2.2.2.1)]) (lE' := [(453, r8.2.2.2.2)]) rfl rfl rfl rfl ?_
          refine q_blk 3 [] (c' := q_kc (t, r, m, z, N, ext, rx, L) I E 12 [some (.ref 452), none, some (.int r9), some (.int (v3 + 1)), some (.int r3)] [] [(452, r8.1), (454, r8.2.1), (455, r8.2.2.1), (456, r8.2.2.2.1)] [(453, r8.2.2.2.2)]) ok_X11_split rfl q_cn ?_
          refine q_less (ls' := [some (.ref 452), none, some (.int r9), some (.int (v3 + 1)), none]) (q_sb2 (q_sb1 (q_sb2 (q_sb2 (q_sb1 q_sb0))))) ?_
          exact ih (I := q_ws I [(452, r8.1), (454, r8.2.1), (455, r8.2.2.1), (456, r8.2.2.2.1)]) (E := q_ws E [(453, r8.2.2.2.2)]) hf (fun hz => q_Jmrg (q_mgw rfl rfl) (q_mgw rfl rfl) (hK0 hz)) (fun hz => q_Jmrg (q_mgw rfl rfl) (q_mgw rfl rfl) (hK1 hz))
        · have hf := q_in h4 hf
          refine q_less (ls' := [some (.ref 452), none, some (.int v2), none, none]) (q_sb2 (q_sb1 (q_sb2 (q_sb1 (q_sb1 q_sb0))))) ?_
          cases hf
          exact q_Jpad (q_pdw [452, 454, 455, 456] rfl rfl) (q_pdw [453] rfl rfl) (hK1 rfl)
set_option maxHeartbeats 4000000 in
theorem ct_X11_split_452 {g : q_G} {t : Nat} {r : Nat} {m : Nat} {z : Nat} {N : Nat} {ext : Nat → q_Sh} {rx : Nat → Nat → Option Nat} {L : Nat → Nat → Int64} {d : Nat} (hd : 12 ≤ d)  {I : Nat → Nat → Int32} {E : Nat → Nat → Option Nat} {x1 : Int32} {r0 : (Nat → Int32) × (Nat → Int32) × (Nat → Int32) × (Nat → Int32) × (Nat → Option Nat)} (hf : f_X11_split (I 401) (I 452) (I 454) (I 455) (I 456) (E 453) x1 = some r0) : q_Ct g m_X11_split d 0 0 [] [.ref 452, .int x1] (q_hp (t, r, m, z, N, ext, rx, L) I E) (fun o h' => o = .inl none ∧ h' = q_hp (t, r, m, z, N, ext, rx, L) (q_ws I [(452, r0.1), (454, r0.2.1), (455, r0.2.2.1), (456, r0.2.2.2.1)]) (q_ws E [(453, r0.2.2.2.2)])) := by
  rw [f_X11_split] at hf
  refine q_Ct_of ok_X11_split (Nat.le_of_ble_eq_true rfl) ?_ _ rfl rfl
  change q_J g m_X11_split d 0 0 _ [] _ 0 0 (q_kc (t, r, m, z, N, ext, rx, L) I E 0 [some (.ref 452), some (.int x1), none, none, none] [] [] [])
  refine q_blk 8 [] (c' := q_kc (t, r, m, z, N, ext, rx, L) I E 8 [some (.ref 452), some (.int x1), none, none, none] [.int (0 : Int32), .ref 452] [(452, (q_up (q_up (I 452) 5 x1) 6 (0 : Int32)))] []) ok_X11_split rfl q_cn ?_
  obtain ⟨r10, hr10, hf⟩ := q_bd hf
  refine q_kV (M2 := m_X11_behindBlanks) (As := [.int (0 : Int32)]) (b := 452) (v2 := some (.int r10)) ok_X11_split ok_X11_behindBlanks cv_X11_behindBlanks (ct_X11_behindBlanks_452 (d := 2) (Nat.le_refl _) hr10) rfl rfl (Or.inl rfl) rfl rfl rfl rfl (Nat.le_trans (Nat.le_of_ble_eq_true rfl) hd) (Nat.le_of_ble_eq_true rfl) (Nat.le_of_ble_eq_true rfl) (Nat.le_of_ble_eq_true rfl) (fun x hx => absurd hx List.not_mem_nil) (q_nmL0 _) (q_nmS0 _) rfl (pos' := 9) (st' := [.int r10]) (lI' := [(452, (q_up (q_up (I 452) 5 x1) 6 (0 : Int32)))]) (lE' := []) rfl rfl rfl rfl ?_
  refine q_blk 3 [] (c' := q_kc (t, r, m, z, N, ext, rx, L) I E 12 [some (.ref 452), some (.int x1), some (.int r10), some (.int (0 : Int32)), none] [] [(452, (q_up (q_up (I 452) 5 x1) 6 (0 : Int32)))] []) ok_X11_split rfl q_cn ?_
  refine q_less (ls' := [some (.ref 452), none, some (.int r10), some (.int (0 : Int32)), none]) (q_sb2 (q_sb1 (q_sb2 (q_sb2 (q_sb1 q_sb0))))) ?_
  obtain ⟨r11, hr11, hf⟩ := q_bd hf
  refine lp_X11_split_L12_452 (I := q_ws I [(452, (q_up (q_up (I 452) 5 x1) 6 (0 : Int32)))]) (E := q_ws E []) hd (Nat.le_of_ble_eq_true rfl) (Nat.le_of_ble_eq_true rfl) 4096 hr11 ?_ ?_
  · intro hz0
    have hf := q_ip hz0 hf
    refine q_Jmrg (lI' := [(452, r11.2.2.1), (454, r11.2.2.2.1), (455, r11.2.2.2.2.1), (456, r11.2.2.2.2.2.1)]) (lE' := [(453, r11.2.2.2.2.2.2)]) (q_mgw rfl rfl) (q_mgw rfl rfl) ?_
    refine q_blf 4 [] (a := q_kc (t, r, m, z, N, ext, rx, L) I E 49 [some (.ref 452), none, some (.int r11.2.1), none, none] [.ref 452] [(452, r11.2.2.1), (454, r11.2.2.2.1), (455, r11.2.2.2.2.1), (456, r11.2.2.2.2.2.1)] [(453, r11.2.2.2.2.2.2)]) (b := q_kc (t, r, m, z, N, ext, rx, L) I E 47 [some (.ref 452), none, some (.int r11.2.1), none, none] [.ref 452] [(452, r11.2.2.1), (454, r11.2.2.2.1), (455, r11.2.2.2.2.1), (456, r11.2.2.2.2.2.1)] [(453, r11.2.2.2.2.2.2)]) (P := (r11.2.2.1 5) ≤ r11.2.1) ok_X11_split rfl q_cn (fun h12 => ?_) (fun h12 => ?_)
    · have hf := q_ip h12 hf
      refine q_blk 3 [] (c' := q_kc (t, r, m, z, N, ext, rx, L) I E 52 [some (.ref 452), none, some (.int r11.2.1), none, none] [.int (0 : Int32), .int r11.2.1, .ref 0, .ref 452] [(452, r11.2.2.1), (454, r11.2.2.2.1), (455, r11.2.2.2.2.1), (456, r11.2.2.2.2.2.1)] [(453, r11.2.2.2.2.2.2)]) ok_X11_split rfl q_cn ?_
      obtain ⟨r13, hr13, hf⟩ := q_bd hf
      refine q_kV (M2 := m_X11_add) (As := [.ref 0, .int r11.2.1, .int (0 : Int32)]) (b := 452) (v2 := none) ok_X11_split ok_X11_add cv_X11_add (ct_X11_add_452 (d := 5) (Nat.le_refl _) hr13) rfl rfl (Or.inl rfl) rfl rfl rfl rfl (Nat.le_trans (Nat.le_of_ble_eq_true rfl) hd) (Nat.le_of_ble_eq_true rfl) (Nat.le_of_ble_eq_true rfl) (Nat.le_of_ble_eq_true rfl) (fun x hx => absurd hx List.not_mem_nil) (q_nmL0 _) (q_nmS0 _) rfl (pos' := 53) (st' := []) (lI' := [(452, r13.1), (454, r13.2.1), (455, r13.2.2.1), (456, r13.2.2.2.1)]) (lE' := [(453, r13.2.2.2.2)]) rfl rfl (q_mgw rfl rfl) (q_mgw rfl rfl) ?_
      cases hf
      exact q_krv ok_X11_split rfl rfl (Nat.le_of_ble_eq_true rfl) (Nat.le_of_ble_eq_true rfl) ⟨rfl, q_hpe (q_pdw [452, 454, 455, 456] rfl rfl) (q_pdw [453] rfl rfl)⟩
    · have hf := q_in h12 hf
      refine q_blk 4 [] (c' := q_kc (t, r, m, z, N, ext, rx, L) I E 52 [some (.ref 452), none, some (.int r11.2.1), none, none] [.int (0 : Int32), .int r11.2.1, .ref 1, .ref 452] [(452, r11.2.2.1), (454, r11.2.2.2.1), (455, r11.2.2.2.2.1), (456, r11.2.2.2.2.2.1)] [(453, r11.2.2.2.2.2.2)]) ok_X11_split rfl q_cn ?_
      obtain ⟨r14, hr14, hf⟩ := q_bd hf
      refine q_kV (M2 := m_X11_add) (As := [.ref 1, .int r11.2.1, .int (0 : Int32)]) (b := 452) (v2 := none) ok_X11_split ok_X11_add cv_X11_add (ct_X11_add_452 (d := 5) (Nat.le_refl _) hr14) rfl rfl (Or.inl rfl) rfl rfl rfl rfl (Nat.le_trans (Nat.le_of_ble_eq_true rfl) hd) (Nat.le_of_ble_eq_true rfl) (Nat.le_of_ble_eq_true rfl) (Nat.le_of_ble_eq_true rfl) (fun x hx => absurd hx List.not_mem_nil) (q_nmL0 _) (q_nmS0 _) rfl (pos' := 53) (st' := []) (lI' := [(452, r14.1), (454, r14.2.1), (455, r14.2.2.1), (456, r14.2.2.2.1)]) (lE' := [(453, r14.2.2.2.2)]) rfl rfl (q_mgw rfl rfl) (q_mgw rfl rfl) ?_
      cases hf
      exact q_krv ok_X11_split rfl rfl (Nat.le_of_ble_eq_true rfl) (Nat.le_of_ble_eq_true rfl) ⟨rfl, q_hpe (q_pdw [452, 454, 455, 456] rfl rfl) (q_pdw [453] rfl rfl)⟩
  · intro hz1
    have hf := q_in (fun h9 => absurd (hz1.symm.trans h9) (by decide)) hf
    refine q_Jmrg (lI' := [(452, r11.2.2.1), (454, r11.2.2.2.1), (455, r11.2.2.2.2.1), (456, r11.2.2.2.2.2.1)]) (lE' := [(453, r11.2.2.2.2.2.2)]) (q_mgw rfl rfl) (q_mgw rfl rfl) ?_
    refine q_blf 5 [] (a := q_kc (t, r, m, z, N, ext, rx, L) I E 49 [some (.ref 452), none, some (.int r11.2.1), none, none] [.ref 452] [(452, r11.2.2.1), (454, r11.2.2.2.1), (455, r11.2.2.2.2.1), (456, r11.2.2.2.2.2.1)] [(453, r11.2.2.2.2.2.2)]) (b := q_kc (t, r, m, z, N, ext, rx, L) I E 47 [some (.ref 452), none, some (.int r11.2.1), none, none] [.ref 452] [(452, r11.2.2.1), (454, r11.2.2.2.1), (455, r11.2.2.2.2.1), (456, r11.2.2.2.2.2.1)] [(453, r11.2.2.2.2.2.2)]) (P := (r11.2.2.1 5) ≤ r11.2.1) ok_X11_split rfl q_cn (fun h15 => ?_) (fun h15 => ?_)
    · have hf := q_ip h15 hf
      refine q_blk 3 [] (c' := q_kc (t, r, m, z, N, ext, rx, L) I E 52 [some (.ref 452), none, some (.int r11.2.1), none, none] [.int (0 : Int32), .int r11.2.1, .ref 0, .ref 452] [(452, r11.2.2.1), (454, r11.2.2.2.1), (455, r11.2.2.2.2.1), (456, r11.2.2.2.2.2.1)] [(453, r11.2.2.2.2.2.2)]) ok_X11_split rfl q_cn ?_
      obtain ⟨r16, hr16, hf⟩ := q_bd hf
      refine q_kV (M2 := m_X11_add) (As := [.ref 0, .int r11.2.1, .int (0 : Int32)]) (b := 452) (v2 := none) ok_X11_split ok_X11_add cv_X11_add (ct_X11_add_452 (d := 5) (Nat.le_refl _) hr16) rfl rfl (Or.inl rfl) rfl rfl rfl rfl (Nat.le_trans (Nat.le_of_ble_eq_true rfl) hd) (Nat.le_of_ble_eq_true rfl) (Nat.le_of_ble_eq_true rfl) (Nat.le_of_ble_eq_true rfl) (fun x hx => absurd hx List.not_mem_nil) (q_nmL0 _) (q_nmS0 _) rfl (pos' := 53) (st' := []) (lI' := [(452, r16.1), (454, r16.2.1), (455, r16.2.2.1), (456, r16.2.2.2.1)]) (lE' := [(453, r16.2.2.2.2)]) rfl rfl (q_mgw rfl rfl) (q_mgw rfl rfl) ?_
      cases hf
      exact q_krv ok_X11_split rfl rfl (Nat.le_of_ble_eq_true rfl) (Nat.le_of_ble_eq_true rfl) ⟨rfl, q_hpe (q_pdw [452, 454, 455, 456] rfl rfl) (q_pdw [453] rfl rfl)⟩
    · have hf := q_in h15 hf
      refine q_blk 4 [] (c' := q_kc (t, r, m, z, N, ext, rx, L) I E 52 [some (.ref 452), none, some (.int r11.2.1), none, none] [.int (0 : Int32), .int r11.2.1, .ref 1, .ref 452] [(452, r11.2.2.1), (454, r11.2.2.2.1), (455, r11.2.2.2.2.1), (456, r11.2.2.2.2.2.1)] [(453, r11.2.2.2.2.2.2)]) ok_X11_split rfl q_cn ?_
      obtain ⟨r17, hr17, hf⟩ := q_bd hf
      refine q_kV (M2 := m_X11_add) (As := [.ref 1, .int r11.2.1, .int (0 : Int32)]) (b := 452) (v2 := none) ok_X11_split ok_X11_add cv_X11_add (ct_X11_add_452 (d := 5) (Nat.le_refl _) hr17) rfl rfl (Or.inl rfl) rfl rfl rfl rfl (Nat.le_trans (Nat.le_of_ble_eq_true rfl) hd) (Nat.le_of_ble_eq_true rfl) (Nat.le_of_ble_eq_true rfl) (Nat.le_of_ble_eq_true rfl) (fun x hx => absurd hx List.not_mem_nil) (q_nmL0 _) (q_nmS0 _) rfl (pos' := 53) (st' := []) (lI' := [(452, r17.1), (454, r17.2.1), (455, r17.2.2.1), (456, r17.2.2.2.1)]) (lE' := [(453, r17.2.2.2.2)]) rfl rfl (q_mgw rfl rfl) (q_mgw rfl rfl) ?_
      cases hf
      exact q_krv ok_X11_split rfl rfl (Nat.le_of_ble_eq_true rfl) (Nat.le_of_ble_eq_true rfl) ⟨rfl, q_hpe (q_pdw [452, 454, 455, 456] rfl rfl) (q_pdw [453] rfl rfl)⟩
set_option maxHeartbeats 4000000 in
theorem ct_X6_clear_426 {g : q_G} {t : Nat} {r : Nat} {m : Nat} {z : Nat} {N : Nat} {ext : Nat → q_Sh} {rx : Nat → Nat → Option Nat} {L : Nat → Nat → Int64} {d : Nat} (hd : 1 ≤ d)  {I : Nat → Nat → Int32} {E : Nat → Nat → Option Nat} {r0 : (Nat → Int32)} (hf : f_X6_clear (I 426) = some r0) : q_Ct g m_X6_clear d 0 0 [] [.ref 426] (q_hp (t, r, m, z, N, ext, rx, L) I E) (fun o h' => o = .inl none ∧ h' = q_hp (t, r, m, z, N, ext, rx, L) (q_ws I [(426, r0)]) (q_ws E [])) := by
  rw [f_X6_clear] at hf
  refine q_Ct_of ok_X6_clear (Nat.le_of_ble_eq_true rfl) ?_ _ rfl rfl
  change q_J g m_X6_clear d 0 0 _ [] _ 0 0 (q_kc (t, r, m, z, N, ext, rx, L) I E 0 [some (.ref 426)] [] [] [])
  refine q_blk 18 [] (c' := q_kc (t, r, m, z, N, ext, rx, L) I E 18 [some (.ref 426)] [] [(426, (q_up (q_up (q_up (q_up (q_up (q_up (I 426) 0 (16 : Int32)) 1 (16 : Int32)) 2 (2 : Int32)) 3 (0 : Int32)) 4 (0 : Int32)) 5 (0 : Int32)))] []) ok_X6_clear rfl q_cn ?_
  cases hf
  exact q_krv ok_X6_clear rfl rfl (Nat.le_of_ble_eq_true rfl) (Nat.le_of_ble_eq_true rfl) ⟨rfl, q_hpe (q_pdw [426] rfl rfl) (q_pdw [] rfl rfl)⟩
set_option maxHeartbeats 4000000 in
theorem ct_X11_sign_452 {g : q_G} {t : Nat} {r : Nat} {m : Nat} {z : Nat} {N : Nat} {ext : Nat → q_Sh} {rx : Nat → Nat → Option Nat} {L : Nat → Nat → Int64} {d : Nat} (hd : 1 ≤ d)  {I : Nat → Nat → Int32} {E : Nat → Nat → Option Nat} {x1 : Int32} {r0 : Nat} (hf : f_X11_sign (I 452) (E 453) x1 = some r0) : q_Ct g m_X11_sign d 0 0 [] [.ref 452, .int x1] (q_hp (t, r, m, z, N, ext, rx, L) I E) (fun o h' => o = .inl (some (.ref r0)) ∧ h' = q_hp (t, r, m, z, N, ext, rx, L) (q_ws I []) (q_ws E [])) := by
  rw [f_X11_sign] at hf
  refine q_Ct_of ok_X11_sign (Nat.le_of_ble_eq_true rfl) ?_ _ rfl rfl
  change q_J g m_X11_sign d 0 0 _ [] _ 0 0 (q_kc (t, r, m, z, N, ext, rx, L) I E 0 [some (.ref 452), some (.int x1), none] [] [] [])
  refine q_blf 1 [] (a := q_kc (t, r, m, z, N, ext, rx, L) I E 14 [some (.ref 452), some (.int x1), none] [] [] []) (b := q_kc (t, r, m, z, N, ext, rx, L) I E 2 [some (.ref 452), some (.int x1), none] [] [] []) (P := x1 < 0) ok_X11_sign rfl q_cn (fun h1 => ?_) (fun h1 => ?_)
  · have hf := q_ip h1 hf
    refine q_blk 6 [] (c' := q_kc (t, r, m, z, N, ext, rx, L) I E 21 [some (.ref 452), some (.int x1), some (.null)] [.ref 1] [] []) ok_X11_sign rfl q_cn ?_
    cases hf
    exact q_kra ok_X11_sign rfl rfl (Nat.le_of_ble_eq_true rfl) (Nat.le_of_ble_eq_true rfl) ⟨rfl, q_hpe (q_pdw [] rfl rfl) (q_pdw [] rfl rfl)⟩
  · have hf := q_in h1 hf
    refine q_blf 3 [] (a := q_kc (t, r, m, z, N, ext, rx, L) I E 14 [some (.ref 452), some (.int x1), none] [] [] []) (b := q_kc (t, r, m, z, N, ext, rx, L) I E 6 [some (.ref 452), some (.int x1), none] [] [] []) (P := ((I 452) 6) ≤ x1) ok_X11_sign rfl q_cn (fun h2 => ?_) (fun h2 => ?_)
    · have hf := q_ip h2 hf
      refine q_blk 6 [] (c' := q_kc (t, r, m, z, N, ext, rx, L) I E 21 [some (.ref 452), some (.int x1), some (.null)] [.ref 1] [] []) ok_X11_sign rfl q_cn ?_
      cases hf
      exact q_kra ok_X11_sign rfl rfl (Nat.le_of_ble_eq_true rfl) (Nat.le_of_ble_eq_true rfl) ⟨rfl, q_hpe (q_pdw [] rfl rfl) (q_pdw [] rfl rfl)⟩
    · have hf := q_in h2 hf
      refine q_blf 2 [] (a := q_kc (t, r, m, z, N, ext, rx, L) I E 14 [some (.ref 452), some (.int x1), none] [] [] []) (b := q_kc (t, r, m, z, N, ext, rx, L) I E 9 [some (.ref 452), some (.int x1), none] [] [] []) (P := (400 : Int32) < x1) ok_X11_sign rfl q_cn (fun h3 => ?_) (fun h3 => ?_)
      · have hf := q_ip h3 hf
        refine q_blk 6 [] (c' := q_kc (t, r, m, z, N, ext, rx, L) I E 21 [some (.ref 452), some (.int x1), some (.null)] [.ref 1] [] []) ok_X11_sign rfl q_cn ?_
        cases hf
        exact q_kra ok_X11_sign rfl rfl (Nat.le_of_ble_eq_true rfl) (Nat.le_of_ble_eq_true rfl) ⟨rfl, q_hpe (q_pdw [] rfl rfl) (q_pdw [] rfl rfl)⟩
      · have hf := q_in h3 hf
        obtain ⟨j4, hj4, hf⟩ := q_bd hf
        refine q_blk 3 [] (c' := q_kc (t, r, m, z, N, ext, rx, L) I E 12 [some (.ref 452), some (.int x1), none] [.int x1, .ref 453] [] []) ok_X11_sign rfl q_cn ?_
        refine q_kaE (o := ((E 453) j4)) (pos' := 13) ok_X11_sign rfl rfl rfl hj4 rfl rfl rfl (fun hb6 => ?_) (fun b5 hb6 hl7 => ?_)
        · have hf := q_on0 hb6 hf
          refine q_blk 6 [] (c' := q_kc (t, r, m, z, N, ext, rx, L) I E 21 [some (.ref 452), some (.int x1), some (.null)] [.ref 1] [] []) ok_X11_sign rfl q_cn ?_
          cases hf
          exact q_kra ok_X11_sign rfl rfl (Nat.le_of_ble_eq_true rfl) (Nat.le_of_ble_eq_true rfl) ⟨rfl, q_hpe (q_pdw [] rfl rfl) (q_pdw [] rfl rfl)⟩
        · have hf := q_on1 hb6 hf
          refine q_blk 5 [] (c' := q_kc (t, r, m, z, N, ext, rx, L) I E 21 [some (.ref 452), some (.int x1), some (.ref b5)] [.ref b5] [] []) ok_X11_sign rfl q_cn ?_
          cases hf
          exact q_kra ok_X11_sign rfl rfl (Nat.le_of_ble_eq_true rfl) (Nat.le_of_ble_eq_true rfl) ⟨rfl, q_hpe (q_pdw [] rfl rfl) (q_pdw [] rfl rfl)⟩
set_option maxHeartbeats 4000000 in
theorem ct_X7_sign_450 {g : q_G} {t : Nat} {m : Nat} {z : Nat} {N : Nat} {ext : Nat → q_Sh} {rx : Nat → Nat → Option Nat} {L : Nat → Nat → Int64} {d : Nat} (hd : 2 ≤ d)  {I : Nat → Nat → Int32} {E : Nat → Nat → Option Nat} {r0 : Nat} (hf : f_X7_sign (I 450) (I 452) (E 453) = some r0) : q_Ct g m_X7_sign d 0 0 [] [.ref 450] (q_hp (t, 0, m, z, N, ext, rx, L) I E) (fun o h' => o = .inl (some (.ref r0)) ∧ h' = q_hp (t, 0, m, z, N, ext, rx, L) (q_ws I []) (q_ws E [])) := by
  rw [f_X7_sign] at hf
  refine q_Ct_of ok_X7_sign (Nat.le_of_ble_eq_true rfl) ?_ _ rfl rfl
  change q_J g m_X7_sign d 0 0 _ [] _ 0 0 (q_kc (t, 0, m, z, N, ext, rx, L) I E 0 [some (.ref 450)] [] [] [])
  refine q_blf 3 [] (a := q_kc (t, 0, m, z, N, ext, rx, L) I E 6 [some (.ref 450)] [] [] []) (b := q_kc (t, 0, m, z, N, ext, rx, L) I E 4 [some (.ref 450)] [] [] []) (P := ¬ ((I 450) 4) = (1 : Int32)) ok_X7_sign rfl q_cn (fun h1 => ?_) (fun h1 => ?_)
  · have hf := q_ip h1 hf
    refine q_blk 4 [] (c' := q_kc (t, 0, m, z, N, ext, rx, L) I E 10 [some (.ref 450)] [.int ((I 450) 3), .ref 452] [] []) ok_X7_sign rfl q_cn ?_
    obtain ⟨r2, hr2, hf⟩ := q_bd hf
    obtain ⟨u3, hu4, hf⟩ := q_bd hf
    refine q_kV (M2 := m_X11_sign) (As := [.int ((I 450) 3)]) (b := 452) (v2 := some (.ref r2)) ok_X7_sign ok_X11_sign cv_X11_sign (ct_X11_sign_452 (d := 1) (Nat.le_refl _) hr2) rfl rfl (Or.inl rfl) rfl rfl rfl rfl (Nat.le_trans (Nat.le_of_ble_eq_true rfl) hd) (Nat.le_of_ble_eq_true rfl) (Nat.le_of_ble_eq_true rfl) (Nat.le_of_ble_eq_true rfl) (fun x hx => absurd hx List.not_mem_nil) (q_nmL0 _) (q_nmS0 _) rfl (pos' := 11) (st' := [.ref r2]) (lI' := []) (lE' := []) rfl rfl rfl rfl ?_
    cases hf
    exact q_kra ok_X7_sign rfl rfl (Nat.le_of_ble_eq_true rfl) (Nat.le_of_ble_eq_true rfl) ⟨rfl, q_hpe (q_pdw [] rfl rfl) (q_pdw [] rfl rfl)⟩
  · have hf := q_in h1 hf
    refine q_blk 2 [] (c' := q_kc (t, 0, m, z, N, ext, rx, L) I E 11 [some (.ref 450)] [.ref 1] [] []) ok_X7_sign rfl q_cn ?_
    cases hf
    exact q_kra ok_X7_sign rfl rfl (Nat.le_of_ble_eq_true rfl) (Nat.le_of_ble_eq_true rfl) ⟨rfl, q_hpe (q_pdw [] rfl rfl) (q_pdw [] rfl rfl)⟩
set_option maxHeartbeats 4000000 in
theorem ct_X7_isStep {g : q_G} {t : Nat} {r : Nat} {m : Nat} {z : Nat} {N : Nat} {ext : Nat → q_Sh} {rx : Nat → Nat → Option Nat} {L : Nat → Nat → Int64} {d : Nat} (hd : 1 ≤ d)  {I : Nat → Nat → Int32} {E : Nat → Nat → Option Nat} {x0 : Nat} {r0 : Bool} (hf : f_X7_isStep x0 = some r0) : q_Ct g m_X7_isStep d 0 0 [] [.ref x0] (q_hp (t, r, m, z, N, ext, rx, L) I E) (fun o h' => o = .inl (some (.int (q_bz r0))) ∧ h' = q_hp (t, r, m, z, N, ext, rx, L) (q_ws I []) (q_ws E [])) := by
  rw [f_X7_isStep] at hf
  refine q_Ct_of ok_X7_isStep (Nat.le_of_ble_eq_true rfl) ?_ _ rfl rfl
  change q_J g m_X7_isStep d 0 0 _ [] _ 0 0 (q_kc (t, r, m, z, N, ext, rx, L) I E 0 [some (.ref x0)] [] [] [])
  obtain ⟨ug0, hg0, hf⟩ := q_bd hf
  refine q_blk 2 [] (c' := q_kc (t, r, m, z, N, ext, rx, L) I E 2 [some (.ref x0)] [.ref 9, .ref x0] [] []) ok_X7_isStep rfl q_cn ?_
  refine q_o_acmp_eq ok_X7_isStep rfl (q_e49_lt hg0) (Nat.lt_of_lt_of_le (Nat.lt_succ_self _) (Nat.le_of_ble_eq_true rfl)) (fun h1 => ?_) (fun h1 => ?_)
  · have hf := q_ip h1 hf
    refine q_blk 2 [] (c' := q_kc (t, r, m, z, N, ext, rx, L) I E 18 [some (.ref x0)] [.int (1 : Int32)] [] []) ok_X7_isStep rfl q_cn ?_
    cases hf
    exact q_kri ok_X7_isStep rfl rfl rfl (Nat.le_of_ble_eq_true rfl) (Nat.le_of_ble_eq_true rfl) ⟨rfl, q_hpe (q_pdw [] rfl rfl) (q_pdw [] rfl rfl)⟩
  · have hf := q_in h1 hf
    refine q_blk 2 [] (c' := q_kc (t, r, m, z, N, ext, rx, L) I E 5 [some (.ref x0)] [.ref 10, .ref x0] [] []) ok_X7_isStep rfl q_cn ?_
    refine q_o_acmp_eq ok_X7_isStep rfl (q_e49_lt hg0) (Nat.lt_of_lt_of_le (Nat.lt_succ_self _) (Nat.le_of_ble_eq_true rfl)) (fun h2 => ?_) (fun h2 => ?_)
    · have hf := q_ip h2 hf
      refine q_blk 2 [] (c' := q_kc (t, r, m, z, N, ext, rx, L) I E 18 [some (.ref x0)] [.int (1 : Int32)] [] []) ok_X7_isStep rfl q_cn ?_
      cases hf
      exact q_kri ok_X7_isStep rfl rfl rfl (Nat.le_of_ble_eq_true rfl) (Nat.le_of_ble_eq_true rfl) ⟨rfl, q_hpe (q_pdw [] rfl rfl) (q_pdw [] rfl rfl)⟩
    · have hf := q_in h2 hf
      refine q_blk 2 [] (c' := q_kc (t, r, m, z, N, ext, rx, L) I E 8 [some (.ref x0)] [.ref 11, .ref x0] [] []) ok_X7_isStep rfl q_cn ?_
      refine q_o_acmp_eq ok_X7_isStep rfl (q_e49_lt hg0) (Nat.lt_of_lt_of_le (Nat.lt_succ_self _) (Nat.le_of_ble_eq_true rfl)) (fun h3 => ?_) (fun h3 => ?_)
      · have hf := q_ip h3 hf
        refine q_blk 2 [] (c' := q_kc (t, r, m, z, N, ext, rx, L) I E 18 [some (.ref x0)] [.int (1 : Int32)] [] []) ok_X7_isStep rfl q_cn ?_
        cases hf
        exact q_kri ok_X7_isStep rfl rfl rfl (Nat.le_of_ble_eq_true rfl) (Nat.le_of_ble_eq_true rfl) ⟨rfl, q_hpe (q_pdw [] rfl rfl) (q_pdw [] rfl rfl)⟩
      · have hf := q_in h3 hf
        refine q_blk 2 [] (c' := q_kc (t, r, m, z, N, ext, rx, L) I E 11 [some (.ref x0)] [.ref 12, .ref x0] [] []) ok_X7_isStep rfl q_cn ?_
        refine q_o_acmp_eq ok_X7_isStep rfl (q_e49_lt hg0) (Nat.lt_of_lt_of_le (Nat.lt_succ_self _) (Nat.le_of_ble_eq_true rfl)) (fun h4 => ?_) (fun h4 => ?_)
        · have hf := q_ip h4 hf
          refine q_blk 2 [] (c' := q_kc (t, r, m, z, N, ext, rx, L) I E 18 [some (.ref x0)] [.int (1 : Int32)] [] []) ok_X7_isStep rfl q_cn ?_
          cases hf
          exact q_kri ok_X7_isStep rfl rfl rfl (Nat.le_of_ble_eq_true rfl) (Nat.le_of_ble_eq_true rfl) ⟨rfl, q_hpe (q_pdw [] rfl rfl) (q_pdw [] rfl rfl)⟩
        · have hf := q_in h4 hf
          refine q_blk 2 [] (c' := q_kc (t, r, m, z, N, ext, rx, L) I E 14 [some (.ref x0)] [.ref 13, .ref x0] [] []) ok_X7_isStep rfl q_cn ?_
          refine q_o_acmp_ne ok_X7_isStep rfl (q_e49_lt hg0) (Nat.lt_of_lt_of_le (Nat.lt_succ_self _) (Nat.le_of_ble_eq_true rfl)) (fun h5 => ?_) (fun h5 => ?_)
          · have hf := q_in h5 hf
            refine q_blk 1 [] (c' := q_kc (t, r, m, z, N, ext, rx, L) I E 18 [some (.ref x0)] [.int (0 : Int32)] [] []) ok_X7_isStep rfl q_cn ?_
            cases hf
            exact q_kri ok_X7_isStep rfl rfl rfl (Nat.le_of_ble_eq_true rfl) (Nat.le_of_ble_eq_true rfl) ⟨rfl, q_hpe (q_pdw [] rfl rfl) (q_pdw [] rfl rfl)⟩
          · have hf := q_ip h5 hf
            refine q_blk 2 [] (c' := q_kc (t, r, m, z, N, ext, rx, L) I E 18 [some (.ref x0)] [.int (1 : Int32)] [] []) ok_X7_isStep rfl q_cn ?_
            cases hf
            exact q_kri ok_X7_isStep rfl rfl rfl (Nat.le_of_ble_eq_true rfl) (Nat.le_of_ble_eq_true rfl) ⟨rfl, q_hpe (q_pdw [] rfl rfl) (q_pdw [] rfl rfl)⟩
set_option maxHeartbeats 4000000 in
theorem ct_X7_fail_450 {g : q_G} {t : Nat} {m : Nat} {z : Nat} {N : Nat} {ext : Nat → q_Sh} {rx : Nat → Nat → Option Nat} {L : Nat → Nat → Int64} {d : Nat} (hd : 1 ≤ d)  {I : Nat → Nat → Int32} {E : Nat → Nat → Option Nat} {r0 : (Nat → Int32)} (hf : f_X7_fail (I 450) = some r0) : q_Ct g m_X7_fail d 0 0 [] [.ref 450] (q_hp (t, 0, m, z, N, ext, rx, L) I E) (fun o h' => o = .inl none ∧ h' = q_hp (t, 0, m, z, N, ext, rx, L) (q_ws I [(450, r0)]) (q_ws E [])) := by
  rw [f_X7_fail] at hf
  refine q_Ct_of ok_X7_fail (Nat.le_of_ble_eq_true rfl) ?_ _ rfl rfl
  change q_J g m_X7_fail d 0 0 _ [] _ 0 0 (q_kc (t, 0, m, z, N, ext, rx, L) I E 0 [some (.ref 450)] [] [] [])
  refine q_blf 3 [] (a := q_kc (t, 0, m, z, N, ext, rx, L) I E 11 [some (.ref 450)] [] [] []) (b := q_kc (t, 0, m, z, N, ext, rx, L) I E 4 [some (.ref 450)] [] [] []) (P := ((I 450) 4) = (1 : Int32)) ok_X7_fail rfl q_cn (fun h1 => ?_) (fun h1 => ?_)
  · have hf := q_ip h1 hf
    cases hf
    exact q_krv ok_X7_fail rfl rfl (Nat.le_of_ble_eq_true rfl) (Nat.le_of_ble_eq_true rfl) ⟨rfl, q_hpe (q_pdw [450] rfl rfl) (q_pdw [] rfl rfl)⟩
  · have hf := q_in h1 hf
    refine q_blk 7 [] (c' := q_kc (t, 0, m, z, N, ext, rx, L) I E 11 [some (.ref 450)] [] [(450, (q_up (q_up (I 450) 4 (1 : Int32)) 5 ((q_up (I 450) 4 (1 : Int32)) 3)))] []) ok_X7_fail rfl q_cn ?_
    cases hf
    exact q_krv ok_X7_fail rfl rfl (Nat.le_of_ble_eq_true rfl) (Nat.le_of_ble_eq_true rfl) ⟨rfl, q_hpe (q_pdw [450] rfl rfl) (q_pdw [] rfl rfl)⟩
set_option maxHeartbeats 4000000 in
theorem ct_X7_takeDeeper_450 {g : q_G} {t : Nat} {m : Nat} {z : Nat} {N : Nat} {ext : Nat → q_Sh} {rx : Nat → Nat → Option Nat} {L : Nat → Nat → Int64} {d : Nat} (hd : 2 ≤ d)  {I : Nat → Nat → Int32} {E : Nat → Nat → Option Nat} {x1 : Int32} {r0 : Bool × (Nat → Int32)} (hf : f_X7_takeDeeper (I 450) x1 = some r0) : q_Ct g m_X7_takeDeeper d 0 0 [] [.ref 450, .int x1] (q_hp (t, 0, m, z, N, ext, rx, L) I E) (fun o h' => o = .inl (some (.int (q_bz r0.1))) ∧ h' = q_hp (t, 0, m, z, N, ext, rx, L) (q_ws I [(450, r0.2)]) (q_ws E [])) := by
  rw [f_X7_takeDeeper] at hf
  refine q_Ct_of ok_X7_takeDeeper (Nat.le_of_ble_eq_true rfl) ?_ _ rfl rfl
  change q_J g m_X7_takeDeeper d 0 0 _ [] _ 0 0 (q_kc (t, 0, m, z, N, ext, rx, L) I E 0 [some (.ref 450), some (.int x1)] [] [] [])
  refine q_blf 2 [] (a := q_kc (t, 0, m, z, N, ext, rx, L) I E 7 [some (.ref 450), some (.int x1)] [] [] []) (b := q_kc (t, 0, m, z, N, ext, rx, L) I E 3 [some (.ref 450), some (.int x1)] [] [] []) (P := x1 < (8 : Int32)) ok_X7_takeDeeper rfl q_cn (fun h1 => ?_) (fun h1 => ?_)
  · have hf := q_ip h1 hf
    refine q_blk 7 [] (c' := q_kc (t, 0, m, z, N, ext, rx, L) I E 14 [some (.ref 450), some (.int x1)] [.int (1 : Int32)] [(450, (q_up (I 450) 3 (((I 450) 3) + (1 : Int32))))] []) ok_X7_takeDeeper rfl q_cn ?_
    cases hf
    exact q_kri ok_X7_takeDeeper rfl rfl rfl (Nat.le_of_ble_eq_true rfl) (Nat.le_of_ble_eq_true rfl) ⟨rfl, q_hpe (q_pdw [450] rfl rfl) (q_pdw [] rfl rfl)⟩
  · have hf := q_in h1 hf
    refine q_blk 1 [] (c' := q_kc (t, 0, m, z, N, ext, rx, L) I E 4 [some (.ref 450), some (.int x1)] [.ref 450] [] []) ok_X7_takeDeeper rfl q_cn ?_
    obtain ⟨r2, hr2, hf⟩ := q_bd hf
    refine q_kV (M2 := m_X7_fail) (As := []) (b := 450) (v2 := none) ok_X7_takeDeeper ok_X7_fail cv_X7_fail (ct_X7_fail_450 (d := 1) (Nat.le_refl _) hr2) rfl rfl (Or.inl rfl) rfl rfl rfl rfl (Nat.le_trans (Nat.le_of_ble_eq_true rfl) hd) (Nat.le_of_ble_eq_true rfl) (Nat.le_of_ble_eq_true rfl) (Nat.le_of_ble_eq_true rfl) (fun x hx => absurd hx List.not_mem_nil) (q_nmL0 _) (q_nmS0 _) rfl (pos' := 5) (st' := []) (lI' := [(450, r2)]) (lE' := []) rfl rfl (q_mgw rfl rfl) rfl ?_
    refine q_blk 1 [] (c' := q_kc (t, 0, m, z, N, ext, rx, L) I E 6 [some (.ref 450), some (.int x1)] [.int (0 : Int32)] [(450, r2)] []) ok_X7_takeDeeper rfl q_cn ?_
    cases hf
    exact q_kri ok_X7_takeDeeper rfl rfl rfl (Nat.le_of_ble_eq_true rfl) (Nat.le_of_ble_eq_true rfl) ⟨rfl, q_hpe (q_pdw [450] rfl rfl) (q_pdw [] rfl rfl)⟩
set_option maxHeartbeats 4000000 in
theorem ct_X7_take_450 {g : q_G} {t : Nat} {m : Nat} {z : Nat} {N : Nat} {ext : Nat → q_Sh} {rx : Nat → Nat → Option Nat} {L : Nat → Nat → Int64} {d : Nat} (hd : 3 ≤ d)  {I : Nat → Nat → Int32} {E : Nat → Nat → Option Nat} {x1 : Nat} {r0 : Bool × (Nat → Int32)} (hf : f_X7_take (I 450) (I 452) (E 453) x1 = some r0) : q_Ct g m_X7_take d 0 0 [] [.ref 450, .ref x1] (q_hp (t, 0, m, z, N, ext, rx, L) I E) (fun o h' => o = .inl (some (.int (q_bz r0.1))) ∧ h' = q_hp (t, 0, m, z, N, ext, rx, L) (q_ws I [(450, r0.2)]) (q_ws E [])) := by
  rw [f_X7_take] at hf
  refine q_Ct_of ok_X7_take (Nat.le_of_ble_eq_true rfl) ?_ _ rfl rfl
  change q_J g m_X7_take d 0 0 _ [] _ 0 0 (q_kc (t, 0, m, z, N, ext, rx, L) I E 0 [some (.ref 450), some (.ref x1)] [] [] [])
  obtain ⟨ug1, hg1, hf⟩ := q_bd hf
  refine q_blk 1 [] (c' := q_kc (t, 0, m, z, N, ext, rx, L) I E 1 [some (.ref 450), some (.ref x1)] [.ref 450] [] []) ok_X7_take rfl q_cn ?_
  obtain ⟨r1, hr1, hf⟩ := q_bd hf
  obtain ⟨u2, hu3, hf⟩ := q_bd hf
  refine q_kV (M2 := m_X7_sign) (As := []) (b := 450) (v2 := some (.ref r1)) ok_X7_take ok_X7_sign cv_X7_sign (ct_X7_sign_450 (d := 2) (Nat.le_refl _) hr1) rfl rfl (Or.inl rfl) rfl rfl rfl rfl (Nat.le_trans (Nat.le_of_ble_eq_true rfl) hd) (Nat.le_of_ble_eq_true rfl) (Nat.le_of_ble_eq_true rfl) (Nat.le_of_ble_eq_true rfl) (fun x hx => absurd hx List.not_mem_nil) (q_nmL0 _) (q_nmS0 _) rfl (pos' := 2) (st' := [.ref r1]) (lI' := []) (lE' := []) rfl rfl rfl rfl ?_
  refine q_blk 1 [] (c' := q_kc (t, 0, m, z, N, ext, rx, L) I E 3 [some (.ref 450), some (.ref x1)] [.ref x1, .ref r1] [] []) ok_X7_take rfl q_cn ?_
  refine q_o_acmp_eq ok_X7_take rfl (q_e49_lt hu3) (q_e49_lt hg1) (fun h4 => ?_) (fun h4 => ?_)
  · have hf := q_ip h4 hf
    refine q_blk 7 [] (c' := q_kc (t, 0, m, z, N, ext, rx, L) I E 15 [some (.ref 450), some (.ref x1)] [.int (1 : Int32)] [(450, (q_up (I 450) 3 (((I 450) 3) + (1 : Int32))))] []) ok_X7_take rfl q_cn ?_
    cases hf
    exact q_kri ok_X7_take rfl rfl rfl (Nat.le_of_ble_eq_true rfl) (Nat.le_of_ble_eq_true rfl) ⟨rfl, q_hpe (q_pdw [450] rfl rfl) (q_pdw [] rfl rfl)⟩
  · have hf := q_in h4 hf
    refine q_blk 1 [] (c' := q_kc (t, 0, m, z, N, ext, rx, L) I E 5 [some (.ref 450), some (.ref x1)] [.ref 450] [] []) ok_X7_take rfl q_cn ?_
    obtain ⟨r5, hr5, hf⟩ := q_bd hf
    refine q_kV (M2 := m_X7_fail) (As := []) (b := 450) (v2 := none) ok_X7_take ok_X7_fail cv_X7_fail (ct_X7_fail_450 (d := 1) (Nat.le_refl _) hr5) rfl rfl (Or.inl rfl) rfl rfl rfl rfl (Nat.le_trans (Nat.le_of_ble_eq_true rfl) hd) (Nat.le_of_ble_eq_true rfl) (Nat.le_of_ble_eq_true rfl) (Nat.le_of_ble_eq_true rfl) (fun x hx => absurd hx List.not_mem_nil) (q_nmL0 _) (q_nmS0 _) rfl (pos' := 6) (st' := []) (lI' := [(450, r5)]) (lE' := []) rfl rfl (q_mgw rfl rfl) rfl ?_
    refine q_blk 1 [] (c' := q_kc (t, 0, m, z, N, ext, rx, L) I E 7 [some (.ref 450), some (.ref x1)] [.int (0 : Int32)] [(450, r5)] []) ok_X7_take rfl q_cn ?_
    cases hf
    exact q_kri ok_X7_take rfl rfl rfl (Nat.le_of_ble_eq_true rfl) (Nat.le_of_ble_eq_true rfl) ⟨rfl, q_hpe (q_pdw [450] rfl rfl) (q_pdw [] rfl rfl)⟩
set_option maxHeartbeats 4000000 in
theorem ct_X6_addOrder_426 {g : q_G} {t : Nat} {r : Nat} {m : Nat} {z : Nat} {N : Nat} {ext : Nat → q_Sh} {rx : Nat → Nat → Option Nat} {L : Nat → Nat → Int64} {d : Nat} (hd : 1 ≤ d)  {I : Nat → Nat → Int32} {E : Nat → Nat → Option Nat} {x1 : Nat} {x2 : Int32} {r0 : (Nat → Int32) × (Nat → Int32) × (Nat → Option Nat)} (hf : f_X6_addOrder (I 426) (I 429) (E 428) x1 x2 = some r0) : q_Ct g m_X6_addOrder d 0 0 [] [.ref 426, .ref x1, .int x2] (q_hp (t, r, m, z, N, ext, rx, L) I E) (fun o h' => o = .inl none ∧ h' = q_hp (t, r, m, z, N, ext, rx, L) (q_ws I [(426, r0.1), (429, r0.2.1)]) (q_ws E [(428, r0.2.2)])) := by
  rw [f_X6_addOrder] at hf
  refine q_Ct_of ok_X6_addOrder (Nat.le_of_ble_eq_true rfl) ?_ _ rfl rfl
  change q_J g m_X6_addOrder d 0 0 _ [] _ 0 0 (q_kc (t, r, m, z, N, ext, rx, L) I E 0 [some (.ref 426), some (.ref x1), some (.int x2)] [] [] [])
  obtain ⟨ug1, hg1, hf⟩ := q_bd hf
  refine q_blf 2 [] (a := q_kc (t, r, m, z, N, ext, rx, L) I E 25 [some (.ref 426), some (.ref x1), some (.int x2)] [] [] []) (b := q_kc (t, r, m, z, N, ext, rx, L) I E 3 [some (.ref 426), some (.ref x1), some (.int x2)] [] [] []) (P := ((I 426) 5) < 0) ok_X6_addOrder rfl q_cn (fun h1 => ?_) (fun h1 => ?_)
  · have hf := q_ip h1 hf
    cases hf
    exact q_krv ok_X6_addOrder rfl rfl (Nat.le_of_ble_eq_true rfl) (Nat.le_of_ble_eq_true rfl) ⟨rfl, q_hpe (q_pdw [426, 429] rfl rfl) (q_pdw [428] rfl rfl)⟩
  · have hf := q_in h1 hf
    refine q_blf 3 [] (a := q_kc (t, r, m, z, N, ext, rx, L) I E 25 [some (.ref 426), some (.ref x1), some (.int x2)] [] [] []) (b := q_kc (t, r, m, z, N, ext, rx, L) I E 7 [some (.ref 426), some (.ref x1), some (.int x2)] [] [] []) (P := (400 : Int32) ≤ ((I 426) 5)) ok_X6_addOrder rfl q_cn (fun h2 => ?_) (fun h2 => ?_)
    · have hf := q_ip h2 hf
      cases hf
      exact q_krv ok_X6_addOrder rfl rfl (Nat.le_of_ble_eq_true rfl) (Nat.le_of_ble_eq_true rfl) ⟨rfl, q_hpe (q_pdw [426, 429] rfl rfl) (q_pdw [428] rfl rfl)⟩
    · have hf := q_in h2 hf
      obtain ⟨j3, hj3, hf⟩ := q_bd hf
      refine q_blk 5 [] (c' := q_kc (t, r, m, z, N, ext, rx, L) I E 12 [some (.ref 426), some (.ref x1), some (.int x2)] [.ref x1, .int ((I 426) 5), .ref 428] [] []) ok_X6_addOrder rfl q_cn ?_
      refine q_kaS (pos' := 13) (lE' := [(428, (q_up (E 428) j3 (some x1)))]) ok_X6_addOrder rfl rfl rfl hj3 rfl (q_e49_lt hg1) rfl rfl ?_
      obtain ⟨j4, hj4, hf⟩ := q_bd hf
      refine q_blk 12 [j4] (c' := q_kc (t, r, m, z, N, ext, rx, L) I E 25 [some (.ref 426), some (.ref x1), some (.int x2)] [] [(426, (q_up (I 426) 5 (((I 426) 5) + (1 : Int32)))), (429, (q_up (I 429) j4 x2))] [(428, (q_up (E 428) j3 (some x1)))]) ok_X6_addOrder rfl (q_cc hj4 q_cn) ?_
      cases hf
      exact q_krv ok_X6_addOrder rfl rfl (Nat.le_of_ble_eq_true rfl) (Nat.le_of_ble_eq_true rfl) ⟨rfl, q_hpe (q_pdw [426, 429] rfl rfl) (q_pdw [428] rfl rfl)⟩
set_option maxHeartbeats 4000000 in
theorem ct_X7_readPair_450 {g : q_G} {t : Nat} {m : Nat} {z : Nat} {N : Nat} {ext : Nat → q_Sh} {rx : Nat → Nat → Option Nat} {L : Nat → Nat → Int64} {d dR : Nat} (hd : dR + 4 ≤ d)  {r_readSum : (Nat → Int32) → (Nat → Int32) → (Nat → Int32) → (Nat → Int32) → (Nat → Int32) → (Nat → Int32) → (Nat → Option Nat) → (Nat → Option Nat) → Int32 → Option ((Nat → Int32) × (Nat → Int32) × (Nat → Int32) × (Nat → Option Nat))} (hq_readSum : ∀ {I : Nat → Nat → Int32} {E : Nat → Nat → Option Nat} {dd : Int32} {r0 : (Nat → Int32) × (Nat → Int32) × (Nat → Int32) × (Nat → Option Nat)}, r_readSum ((I 426)) ((I 429)) ((I 450)) ((I 451)) ((I 452)) ((I 456)) ((E 428)) ((E 453)) dd = some r0 → q_Ct g m_X7_readSum dR 0 0 [] [.ref 450, .int dd] (q_hp (t, 0, m, z, N, ext, rx, L) I E) (fun o h' => o = .inl none ∧ h' = q_hp (t, 0, m, z, N, ext, rx, L) (q_ws I [(426, r0.1), (429, r0.2.1), (450, r0.2.2.1)]) (q_ws E [(428, r0.2.2.2)]))){I : Nat → Nat → Int32} {E : Nat → Nat → Option Nat} {x1 : Nat} {x2 : Int32} {r0 : (Nat → Int32) × (Nat → Int32) × (Nat → Int32) × (Nat → Option Nat)} (hf : f_X7_readPair r_readSum (I 426) (I 429) (I 450) (I 451) (I 452) (I 456) (E 428) (E 453) x1 x2 = some r0) : q_Ct g m_X7_readPair d 0 0 [] [.ref 450, .ref x1, .int x2] (q_hp (t, 0, m, z, N, ext, rx, L) I E) (fun o h' => o = .inl none ∧ h' = q_hp (t, 0, m, z, N, ext, rx, L) (q_ws I [(426, r0.1), (429, r0.2.1), (450, r0.2.2.1)]) (q_ws E [(428, r0.2.2.2)])) := by
  rw [f_X7_readPair] at hf
  refine q_Ct_of ok_X7_readPair (Nat.le_of_ble_eq_true rfl) ?_ _ rfl rfl
  change q_J g m_X7_readPair d 0 0 _ [] _ 0 0 (q_kc (t, 0, m, z, N, ext, rx, L) I E 0 [some (.ref 450), some (.ref x1), some (.int x2)] [] [] [])
  obtain ⟨ug1, hg1, hf⟩ := q_bd hf
  refine q_blk 1 [] (c' := q_kc (t, 0, m, z, N, ext, rx, L) I E 1 [some (.ref 450), some (.ref x1), some (.int x2)] [.ref 450] [] []) ok_X7_readPair rfl q_cn ?_
  obtain ⟨r1, hr1, hf⟩ := q_bd hf
  obtain ⟨u2, hu3, hf⟩ := q_bd hf
  refine q_kV (M2 := m_X7_sign) (As := []) (b := 450) (v2 := some (.ref r1)) ok_X7_readPair ok_X7_sign cv_X7_sign (ct_X7_sign_450 (d := 2) (Nat.le_refl _) hr1) rfl rfl (Or.inl rfl) rfl rfl rfl rfl (by omega) (Nat.le_of_ble_eq_true rfl) (Nat.le_of_ble_eq_true rfl) (Nat.le_of_ble_eq_true rfl) (fun x hx => absurd hx List.not_mem_nil) (q_nmL0 _) (q_nmS0 _) rfl (pos' := 2) (st' := [.ref r1]) (lI' := []) (lE' := []) rfl rfl rfl rfl ?_
  refine q_blk 1 [] (c' := q_kc (t, 0, m, z, N, ext, rx, L) I E 3 [some (.ref 450), some (.ref x1), some (.int x2)] [.ref 34, .ref r1] [] []) ok_X7_readPair rfl q_cn ?_
  refine q_o_acmp_eq ok_X7_readPair rfl (q_e49_lt hu3) (Nat.lt_of_lt_of_le (Nat.lt_succ_self _) (Nat.le_of_ble_eq_true rfl)) (fun h4 => ?_) (fun h4 => ?_)
  · have hf := q_ip h4 hf
    refine q_blk 2 [] (c' := q_kc (t, 0, m, z, N, ext, rx, L) I E 9 [some (.ref 450), some (.ref x1), some (.int x2)] [.int x2, .ref 450] [] []) ok_X7_readPair rfl q_cn ?_
    obtain ⟨r5, hr5, hf⟩ := q_bd hf
    refine q_kV (M2 := m_X7_takeDeeper) (As := [.int x2]) (b := 450) (v2 := some (.int (q_bz r5.1))) ok_X7_readPair ok_X7_takeDeeper cv_X7_takeDeeper (ct_X7_takeDeeper_450 (d := 2) (Nat.le_refl _) hr5) rfl rfl (Or.inl rfl) rfl rfl rfl rfl (by omega) (Nat.le_of_ble_eq_true rfl) (Nat.le_of_ble_eq_true rfl) (Nat.le_of_ble_eq_true rfl) (fun x hx => absurd hx List.not_mem_nil) (q_nmL0 _) (q_nmS0 _) rfl (pos' := 10) (st' := [.int (q_bz r5.1)]) (lI' := [(450, r5.2)]) (lE' := []) rfl rfl (q_mgw rfl rfl) rfl ?_
    refine q_blf 0 [] (a := q_kc (t, 0, m, z, N, ext, rx, L) I E 34 [some (.ref 450), some (.ref x1), some (.int x2)] [] [(450, r5.2)] []) (b := q_kc (t, 0, m, z, N, ext, rx, L) I E 11 [some (.ref 450), some (.ref x1), some (.int x2)] [] [(450, r5.2)] []) (P := (q_bz r5.1) = 0) ok_X7_readPair rfl q_cn (fun h6 => ?_) (fun h6 => ?_)
    · have hf := q_ip h6 hf
      cases hf
      exact q_krv ok_X7_readPair rfl rfl (Nat.le_of_ble_eq_true rfl) (Nat.le_of_ble_eq_true rfl) ⟨rfl, q_hpe (q_pdw [426, 429, 450] rfl rfl) (q_pdw [428] rfl rfl)⟩
    · have hf := q_in h6 hf
      refine q_blk 4 [] (c' := q_kc (t, 0, m, z, N, ext, rx, L) I E 15 [some (.ref 450), some (.ref x1), some (.int x2)] [.int (x2 + (1 : Int32)), .ref 450] [(450, r5.2)] []) ok_X7_readPair rfl q_cn ?_
      obtain ⟨r7, hr7, hf⟩ := q_bd hf
      refine q_kV (M2 := m_X7_readSum) (As := [.int (x2 + (1 : Int32))]) (b := 450) (v2 := none) ok_X7_readPair ok_X7_readSum cv_X7_readSum (hq_readSum hr7) rfl rfl (Or.inl rfl) rfl rfl rfl rfl (by omega) (Nat.le_of_ble_eq_true rfl) (Nat.le_of_ble_eq_true rfl) (Nat.le_of_ble_eq_true rfl) (fun x hx => absurd hx List.not_mem_nil) (q_nmL0 _) (q_nmS0 _) rfl (pos' := 16) (st' := []) (lI' := [(426, r7.1), (429, r7.2.1), (450, r7.2.2.1)]) (lE' := [(428, r7.2.2.2)]) rfl rfl (q_mgw rfl rfl) (q_mgw rfl rfl) ?_
      refine q_blk 2 [] (c' := q_kc (t, 0, m, z, N, ext, rx, L) I E 18 [some (.ref 450), some (.ref x1), some (.int x2)] [.ref 39, .ref 450] [(426, r7.1), (429, r7.2.1), (450, r7.2.2.1)] [(428, r7.2.2.2)]) ok_X7_readPair rfl q_cn ?_
      obtain ⟨r8, hr8, hf⟩ := q_bd hf
      refine q_kV (M2 := m_X7_take) (As := [.ref 39]) (b := 450) (v2 := some (.int (q_bz r8.1))) ok_X7_readPair ok_X7_take cv_X7_take (ct_X7_take_450 (d := 3) (Nat.le_refl _) hr8) rfl rfl (Or.inl rfl) rfl rfl rfl rfl (by omega) (Nat.le_of_ble_eq_true rfl) (Nat.le_of_ble_eq_true rfl) (Nat.le_of_ble_eq_true rfl) (fun x hx => absurd hx List.not_mem_nil) (q_nmL0 _) (q_nmS0 _) rfl (pos' := 19) (st' := [.int (q_bz r8.1)]) (lI' := [(426, r7.1), (429, r7.2.1), (450, r8.2)]) (lE' := [(428, r7.2.2.2)]) rfl rfl (q_mgw rfl rfl) rfl ?_
      refine q_blk 5 [] (c' := q_kc (t, 0, m, z, N, ext, rx, L) I E 24 [some (.ref 450), some (.ref x1), some (.int x2)] [.int (x2 + (1 : Int32)), .ref 450] [(426, r7.1), (429, r7.2.1), (450, r8.2)] [(428, r7.2.2.2)]) ok_X7_readPair rfl q_cn ?_
      obtain ⟨r9, hr9, hf⟩ := q_bd hf
      refine q_kV (M2 := m_X7_readSum) (As := [.int (x2 + (1 : Int32))]) (b := 450) (v2 := none) ok_X7_readPair ok_X7_readSum cv_X7_readSum (hq_readSum hr9) rfl rfl (Or.inl rfl) rfl rfl rfl rfl (by omega) (Nat.le_of_ble_eq_true rfl) (Nat.le_of_ble_eq_true rfl) (Nat.le_of_ble_eq_true rfl) (fun x hx => absurd hx List.not_mem_nil) (q_nmL0 _) (q_nmS0 _) rfl (pos' := 25) (st' := []) (lI' := [(426, r9.1), (429, r9.2.1), (450, r9.2.2.1)]) (lE' := [(428, r9.2.2.2)]) rfl rfl (q_mgw rfl rfl) (q_mgw rfl rfl) ?_
      refine q_blk 2 [] (c' := q_kc (t, 0, m, z, N, ext, rx, L) I E 27 [some (.ref 450), some (.ref x1), some (.int x2)] [.ref 35, .ref 450] [(426, r9.1), (429, r9.2.1), (450, r9.2.2.1)] [(428, r9.2.2.2)]) ok_X7_readPair rfl q_cn ?_
      obtain ⟨r10, hr10, hf⟩ := q_bd hf
      refine q_kV (M2 := m_X7_take) (As := [.ref 35]) (b := 450) (v2 := some (.int (q_bz r10.1))) ok_X7_readPair ok_X7_take cv_X7_take (ct_X7_take_450 (d := 3) (Nat.le_refl _) hr10) rfl rfl (Or.inl rfl) rfl rfl rfl rfl (by omega) (Nat.le_of_ble_eq_true rfl) (Nat.le_of_ble_eq_true rfl) (Nat.le_of_ble_eq_true rfl) (fun x hx => absurd hx List.not_mem_nil) (q_nmL0 _) (q_nmS0 _) rfl (pos' := 28) (st' := [.int (q_bz r10.1)]) (lI' := [(426, r9.1), (429, r9.2.1), (450, r10.2)]) (lE' := [(428, r9.2.2.2)]) rfl rfl (q_mgw rfl rfl) rfl ?_
      refine q_blk 5 [] (c' := q_kc (t, 0, m, z, N, ext, rx, L) I E 33 [some (.ref 450), some (.ref x1), some (.int x2)] [.int (0 : Int32), .ref x1, .ref 426] [(426, r9.1), (429, r9.2.1), (450, r10.2)] [(428, r9.2.2.2)]) ok_X7_readPair rfl q_cn ?_
      obtain ⟨r11, hr11, hf⟩ := q_bd hf
      refine q_kV (M2 := m_X6_addOrder) (As := [.ref x1, .int (0 : Int32)]) (b := 426) (v2 := none) ok_X7_readPair ok_X6_addOrder cv_X6_addOrder (ct_X6_addOrder_426 (d := 1) (Nat.le_refl _) hr11) rfl rfl (Or.inl rfl) rfl rfl rfl rfl (by omega) (Nat.le_of_ble_eq_true rfl) (Nat.le_of_ble_eq_true rfl) (Nat.le_of_ble_eq_true rfl) (fun x hx => absurd hx List.not_mem_nil) (q_nmL0 _) (q_nmS0 _) rfl (pos' := 34) (st' := []) (lI' := [(426, r11.1), (429, r11.2.1), (450, r10.2)]) (lE' := [(428, r11.2.2)]) rfl rfl (q_mgw rfl rfl) (q_mgw rfl rfl) ?_
      cases hf
      exact q_krv ok_X7_readPair rfl rfl (Nat.le_of_ble_eq_true rfl) (Nat.le_of_ble_eq_true rfl) ⟨rfl, q_hpe (q_pdw [426, 429, 450] rfl rfl) (q_pdw [428] rfl rfl)⟩
  · have hf := q_in h4 hf
    refine q_blk 1 [] (c' := q_kc (t, 0, m, z, N, ext, rx, L) I E 5 [some (.ref 450), some (.ref x1), some (.int x2)] [.ref 450] [] []) ok_X7_readPair rfl q_cn ?_
    obtain ⟨r12, hr12, hf⟩ := q_bd hf
    refine q_kV (M2 := m_X7_fail) (As := []) (b := 450) (v2 := none) ok_X7_readPair ok_X7_fail cv_X7_fail (ct_X7_fail_450 (d := 1) (Nat.le_refl _) hr12) rfl rfl (Or.inl rfl) rfl rfl rfl rfl (by omega) (Nat.le_of_ble_eq_true rfl) (Nat.le_of_ble_eq_true rfl) (Nat.le_of_ble_eq_true rfl) (fun x hx => absurd hx List.not_mem_nil) (q_nmL0 _) (q_nmS0 _) rfl (pos' := 6) (st' := []) (lI' := [(450, r12)]) (lE' := []) rfl rfl (q_mgw rfl rfl) rfl ?_
    refine q_blk 1 [] (c' := q_kc (t, 0, m, z, N, ext, rx, L) I E 34 [some (.ref 450), some (.ref x1), some (.int x2)] [] [(450, r12)] []) ok_X7_readPair rfl q_cn ?_
    cases hf
    exact q_krv ok_X7_readPair rfl rfl (Nat.le_of_ble_eq_true rfl) (Nat.le_of_ble_eq_true rfl) ⟨rfl, q_hpe (q_pdw [426, 429, 450] rfl rfl) (q_pdw [428] rfl rfl)⟩
set_option maxHeartbeats 4000000 in
theorem ct_X11_value_452 {g : q_G} {t : Nat} {r : Nat} {m : Nat} {z : Nat} {N : Nat} {ext : Nat → q_Sh} {rx : Nat → Nat → Option Nat} {L : Nat → Nat → Int64} {d : Nat} (hd : 1 ≤ d)  {I : Nat → Nat → Int32} {E : Nat → Nat → Option Nat} {x1 : Int32} {r0 : Int32} (hf : f_X11_value (I 452) (I 456) x1 = some r0) : q_Ct g m_X11_value d 0 0 [] [.ref 452, .int x1] (q_hp (t, r, m, z, N, ext, rx, L) I E) (fun o h' => o = .inl (some (.int r0)) ∧ h' = q_hp (t, r, m, z, N, ext, rx, L) (q_ws I []) (q_ws E [])) := by
  rw [f_X11_value] at hf
  refine q_Ct_of ok_X11_value (Nat.le_of_ble_eq_true rfl) ?_ _ rfl rfl
  change q_J g m_X11_value d 0 0 _ [] _ 0 0 (q_kc (t, r, m, z, N, ext, rx, L) I E 0 [some (.ref 452), some (.int x1)] [] [] [])
  refine q_blf 1 [] (a := q_kc (t, r, m, z, N, ext, rx, L) I E 14 [some (.ref 452), some (.int x1)] [] [] []) (b := q_kc (t, r, m, z, N, ext, rx, L) I E 2 [some (.ref 452), some (.int x1)] [] [] []) (P := x1 < 0) ok_X11_value rfl q_cn (fun h1 => ?_) (fun h1 => ?_)
  · have hf := q_ip h1 hf
    refine q_blk 1 [] (c' := q_kc (t, r, m, z, N, ext, rx, L) I E 15 [some (.ref 452), some (.int x1)] [.int (0 : Int32)] [] []) ok_X11_value rfl q_cn ?_
    cases hf
    exact q_kri ok_X11_value rfl rfl rfl (Nat.le_of_ble_eq_true rfl) (Nat.le_of_ble_eq_true rfl) ⟨rfl, q_hpe (q_pdw [] rfl rfl) (q_pdw [] rfl rfl)⟩
  · have hf := q_in h1 hf
    refine q_blf 3 [] (a := q_kc (t, r, m, z, N, ext, rx, L) I E 14 [some (.ref 452), some (.int x1)] [] [] []) (b := q_kc (t, r, m, z, N, ext, rx, L) I E 6 [some (.ref 452), some (.int x1)] [] [] []) (P := ((I 452) 6) ≤ x1) ok_X11_value rfl q_cn (fun h2 => ?_) (fun h2 => ?_)
    · have hf := q_ip h2 hf
      refine q_blk 1 [] (c' := q_kc (t, r, m, z, N, ext, rx, L) I E 15 [some (.ref 452), some (.int x1)] [.int (0 : Int32)] [] []) ok_X11_value rfl q_cn ?_
      cases hf
      exact q_kri ok_X11_value rfl rfl rfl (Nat.le_of_ble_eq_true rfl) (Nat.le_of_ble_eq_true rfl) ⟨rfl, q_hpe (q_pdw [] rfl rfl) (q_pdw [] rfl rfl)⟩
    · have hf := q_in h2 hf
      refine q_blf 2 [] (a := q_kc (t, r, m, z, N, ext, rx, L) I E 14 [some (.ref 452), some (.int x1)] [] [] []) (b := q_kc (t, r, m, z, N, ext, rx, L) I E 9 [some (.ref 452), some (.int x1)] [] [] []) (P := (400 : Int32) < x1) ok_X11_value rfl q_cn (fun h3 => ?_) (fun h3 => ?_)
      · have hf := q_ip h3 hf
        refine q_blk 1 [] (c' := q_kc (t, r, m, z, N, ext, rx, L) I E 15 [some (.ref 452), some (.int x1)] [.int (0 : Int32)] [] []) ok_X11_value rfl q_cn ?_
        cases hf
        exact q_kri ok_X11_value rfl rfl rfl (Nat.le_of_ble_eq_true rfl) (Nat.le_of_ble_eq_true rfl) ⟨rfl, q_hpe (q_pdw [] rfl rfl) (q_pdw [] rfl rfl)⟩
      · have hf := q_in h3 hf
        obtain ⟨j4, hj4, hf⟩ := q_bd hf
        refine q_blk 5 [j4] (c' := q_kc (t, r, m, z, N, ext, rx, L) I E 15 [some (.ref 452), some (.int x1)] [.int ((I 456) j4)] [] []) ok_X11_value rfl (q_cc hj4 q_cn) ?_
        cases hf
        exact q_kri ok_X11_value rfl rfl rfl (Nat.le_of_ble_eq_true rfl) (Nat.le_of_ble_eq_true rfl) ⟨rfl, q_hpe (q_pdw [] rfl rfl) (q_pdw [] rfl rfl)⟩
set_option maxHeartbeats 4000000 in
theorem lp_X7_hookNamed_L2_450 {g : q_G} {d mc ms : Nat} {h0 : q_H} {Q : (Option Value ⊕ String) → q_H → Prop} {k n : Nat} {t : Nat} {m : Nat} {z : Nat} {N : Nat} {ext : Nat → q_Sh} {rx : Nat → Nat → Option Nat} {L : Nat → Nat → Int64} (hd : 1 ≤ d) (hk : k ≤ mc) (hn : n ≤ ms)  {v1 : Int32} : ∀ (fu : Nat) {I : Nat → Nat → Int32} {E : Nat → Nat → Option Nat} {v2 : Int32} {r0 : Nat × Int32} (hf : f_X7_hookNamed_L2 (I 426) (I 451) v1 fu v2 = some r0) (hK0 : r0.1 = 0 → q_J g m_X7_hookNamed d mc ms h0 [] Q k n (q_kc (t, 0, m, z, N, ext, rx, L) I E 20 [none, none, none] [] [] [])) (hK1 : r0.1 = 1 → q_J g m_X7_hookNamed d mc ms h0 [] Q k n (q_kc (t, 0, m, z, N, ext, rx, L) I E 16 [none, none, some (.int r0.2)] [] [] [])), q_J g m_X7_hookNamed d mc ms h0 [] Q k n (2, [some (.ref 450), some (.int v1), some (.int v2)], [], q_hp (t, 0, m, z, N, ext, rx, L) I E) := by
  intro fu
  induction fu with
  | zero =>
    intro I E v2 r0 hf hK0 hK1
    rw [f_X7_hookNamed_L2] at hf
    cases hf
  | succ fu ih =>
    intro I E v2 r0 hf hK0 hK1
    rw [f_X7_hookNamed_L2] at hf
    change q_J g m_X7_hookNamed d mc ms h0 [] Q k n (q_kc (t, 0, m, z, N, ext, rx, L) I E 2 [some (.ref 450), some (.int v1), some (.int v2)] [] [] [])
    refine q_blf 4 [] (a := q_kc (t, 0, m, z, N, ext, rx, L) I E 20 [some (.ref 450), some (.int v1), some (.int v2)] [] [] []) (b := q_kc (t, 0, m, z, N, ext, rx, L) I E 7 [some (.ref 450), some (.int v1), some (.int v2)] [] [] []) (P := ((I 426) 3) ≤ v2) ok_X7_hookNamed rfl q_cn (fun h1 => ?_) (fun h1 => ?_)
    · have hf := q_ip h1 hf
      refine q_less (ls' := [none, none, none]) (q_sb1 (q_sb1 (q_sb1 q_sb0))) ?_
      cases hf
      exact q_Jpad (q_pdw [] rfl rfl) (q_pdw [] rfl rfl) (hK0 rfl)
    · have hf := q_in h1 hf
      refine q_blf 2 [] (a := q_kc (t, 0, m, z, N, ext, rx, L) I E 20 [some (.ref 450), some (.int v1), some (.int v2)] [] [] []) (b := q_kc (t, 0, m, z, N, ext, rx, L) I E 10 [some (.ref 450), some (.int v1), some (.int v2)] [] [] []) (P := (6 : Int32) ≤ v2) ok_X7_hookNamed rfl q_cn (fun h2 => ?_) (fun h2 => ?_)
      · have hf := q_ip h2 hf
        refine q_less (ls' := [none, none, none]) (q_sb1 (q_sb1 (q_sb1 q_sb0))) ?_
        cases hf
        exact q_Jpad (q_pdw [] rfl rfl) (q_pdw [] rfl rfl) (hK0 rfl)
      · have hf := q_in h2 hf
        obtain ⟨j3, hj3, hf⟩ := q_bd hf
        refine q_blf 5 [j3] (a := q_kc (t, 0, m, z, N, ext, rx, L) I E 18 [some (.ref 450), some (.int v1), some (.int v2)] [] [] []) (b := q_kc (t, 0, m, z, N, ext, rx, L) I E 16 [some (.ref 450), some (.int v1), some (.int v2)] [] [] []) (P := ¬ ((I 451) j3) = v1) ok_X7_hookNamed rfl (q_cc hj3 q_cn) (fun h4 => ?_) (fun h4 => ?_)
        · have hf := q_ip h4 hf
          refine q_blk 2 [] (c' := q_kc (t, 0, m, z, N, ext, rx, L) I E 2 [some (.ref 450), some (.int v1), some (.int (v2 + 1))] [] [] []) ok_X7_hookNamed rfl q_cn ?_
          exact ih (I := q_ws I []) (E := q_ws E []) hf (fun hz => q_Jmrg (q_mgw rfl rfl) (q_mgw rfl rfl) (hK0 hz)) (fun hz => q_Jmrg (q_mgw rfl rfl) (q_mgw rfl rfl) (hK1 hz))
        · have hf := q_in h4 hf
          refine q_less (ls' := [none, none, some (.int v2)]) (q_sb1 (q_sb1 (q_sb2 q_sb0))) ?_
          cases hf
          exact q_Jpad (q_pdw [] rfl rfl) (q_pdw [] rfl rfl) (hK1 rfl)
set_option maxHeartbeats 4000000 in
theorem ct_X7_hookNamed_450 {g : q_G} {t : Nat} {m : Nat} {z : Nat} {N : Nat} {ext : Nat → q_Sh} {rx : Nat → Nat → Option Nat} {L : Nat → Nat → Int64} {d : Nat} (hd : 1 ≤ d)  {I : Nat → Nat → Int32} {E : Nat → Nat → Option Nat} {x1 : Int32} {r0 : Int32} (hf : f_X7_hookNamed (I 426) (I 451) x1 = some r0) : q_Ct g m_X7_hookNamed d 0 0 [] [.ref 450, .int x1] (q_hp (t, 0, m, z, N, ext, rx, L) I E) (fun o h' => o = .inl (some (.int r0)) ∧ h' = q_hp (t, 0, m, z, N, ext, rx, L) (q_ws I []) (q_ws E [])) := by
  rw [f_X7_hookNamed] at hf
  refine q_Ct_of ok_X7_hookNamed (Nat.le_of_ble_eq_true rfl) ?_ _ rfl rfl
  change q_J g m_X7_hookNamed d 0 0 _ [] _ 0 0 (q_kc (t, 0, m, z, N, ext, rx, L) I E 0 [some (.ref 450), some (.int x1), none] [] [] [])
  refine q_blk 2 [] (c' := q_kc (t, 0, m, z, N, ext, rx, L) I E 2 [some (.ref 450), some (.int x1), some (.int (0 : Int32))] [] [] []) ok_X7_hookNamed rfl q_cn ?_
  obtain ⟨r5, hr5, hf⟩ := q_bd hf
  refine lp_X7_hookNamed_L2_450 (I := q_ws I []) (E := q_ws E []) hd (Nat.le_of_ble_eq_true rfl) (Nat.le_of_ble_eq_true rfl) 4096 hr5 ?_ ?_
  · intro hz0
    have hf := q_ip hz0 hf
    refine q_Jmrg (lI' := []) (lE' := []) (q_mgw rfl rfl) (q_mgw rfl rfl) ?_
    refine q_blk 1 [] (c' := q_kc (t, 0, m, z, N, ext, rx, L) I E 21 [none, none, none] [.int (-1 : Int32)] [] []) ok_X7_hookNamed rfl q_cn ?_
    cases hf
    exact q_kri ok_X7_hookNamed rfl rfl rfl (Nat.le_of_ble_eq_true rfl) (Nat.le_of_ble_eq_true rfl) ⟨rfl, q_hpe (q_pdw [] rfl rfl) (q_pdw [] rfl rfl)⟩
  · intro hz1
    have hf := q_in (fun h9 => absurd (hz1.symm.trans h9) (by decide)) hf
    refine q_Jmrg (lI' := []) (lE' := []) (q_mgw rfl rfl) (q_mgw rfl rfl) ?_
    refine q_blk 1 [] (c' := q_kc (t, 0, m, z, N, ext, rx, L) I E 17 [none, none, some (.int r5.2)] [.int r5.2] [] []) ok_X7_hookNamed rfl q_cn ?_
    cases hf
    exact q_kri ok_X7_hookNamed rfl rfl rfl (Nat.le_of_ble_eq_true rfl) (Nat.le_of_ble_eq_true rfl) ⟨rfl, q_hpe (q_pdw [] rfl rfl) (q_pdw [] rfl rfl)⟩
