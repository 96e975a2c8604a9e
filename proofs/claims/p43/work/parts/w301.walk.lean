set_option maxHeartbeats 4000000 in
theorem ct_X1_lead_458 {g : q_G} {t : Nat} {r : Nat} {m : Nat} {z : Nat} {N : Nat} {ext : Nat → q_Sh} {rx : Nat → Nat → Option Nat} {L : Nat → Nat → Int64} {d : Nat} (hd : 2 ≤ d)  {I : Nat → Nat → Int32} {E : Nat → Nat → Option Nat} {x1 : Int32} {x2 : Int32} {r0 : Int32} (hf : f_X1_lead (I 463) (I 464) x1 x2 = some r0) : q_Ct g m_X1_lead d 0 0 [] [.ref 458, .int x1, .int x2] (q_hp (t, r, m, z, N, ext, rx, L) I E) (fun o h' => o = .inl (some (.int r0)) ∧ h' = q_hp (t, r, m, z, N, ext, rx, L) (q_ws I []) (q_ws E [])) := by
  rw [f_X1_lead] at hf
  refine q_Ct_of ok_X1_lead (Nat.le_of_ble_eq_true rfl) ?_ _ rfl rfl
  change q_J g m_X1_lead d 0 0 _ [] _ 0 0 (q_kc (t, r, m, z, N, ext, rx, L) I E 0 [some (.ref 458), some (.int x1), some (.int x2)] [] [] [])
  refine q_blk 3 [] (c' := q_kc (t, r, m, z, N, ext, rx, L) I E 3 [some (.ref 458), some (.int x1), some (.int x2)] [.int x2, .int x1, .ref 458] [] []) ok_X1_lead rfl q_cn ?_
  obtain ⟨r1, hr1, hf⟩ := q_bd hf
  refine q_kV (M2 := m_X1_hasRope) (As := [.int x1, .int x2]) (b := 458) (v2 := some (.int (q_bz r1))) ok_X1_lead ok_X1_hasRope cv_X1_hasRope (ct_X1_hasRope_458 (d := 1) (Nat.le_refl _) hr1) rfl rfl (Or.inl rfl) rfl rfl rfl rfl (Nat.le_trans (Nat.le_of_ble_eq_true rfl) hd) (Nat.le_of_ble_eq_true rfl) (Nat.le_of_ble_eq_true rfl) (Nat.le_of_ble_eq_true rfl) (fun x hx => absurd hx List.not_mem_nil) (q_nmL0 _) (q_nmS0 _) rfl (pos' := 4) (st' := [.int (q_bz r1)]) (lI' := []) (lE' := []) rfl rfl rfl rfl ?_
  refine q_blf 0 [] (a := q_kc (t, r, m, z, N, ext, rx, L) I E 14 [some (.ref 458), some (.int x1), some (.int x2)] [] [] []) (b := q_kc (t, r, m, z, N, ext, rx, L) I E 5 [some (.ref 458), some (.int x1), some (.int x2)] [] [] []) (P := (q_bz r1) = 0) ok_X1_lead rfl q_cn (fun h2 => ?_) (fun h2 => ?_)
  · have hf := q_ip h2 hf
    refine q_blk 1 [] (c' := q_kc (t, r, m, z, N, ext, rx, L) I E 15 [some (.ref 458), some (.int x1), some (.int x2)] [.int (-1 : Int32)] [] []) ok_X1_lead rfl q_cn ?_
    cases hf
    exact q_kri ok_X1_lead rfl rfl rfl (Nat.le_of_ble_eq_true rfl) (Nat.le_of_ble_eq_true rfl) ⟨rfl, q_hpe (q_pdw [] rfl rfl) (q_pdw [] rfl rfl)⟩
  · have hf := q_in h2 hf
    obtain ⟨j3, hj3, hf⟩ := q_bd hf
    refine q_blk 9 [j3] (c' := q_kc (t, r, m, z, N, ext, rx, L) I E 15 [some (.ref 458), some (.int x1), some (.int x2)] [.int ((I 464) j3)] [] []) ok_X1_lead rfl (q_cc hj3 q_cn) ?_
    cases hf
    exact q_kri ok_X1_lead rfl rfl rfl (Nat.le_of_ble_eq_true rfl) (Nat.le_of_ble_eq_true rfl) ⟨rfl, q_hpe (q_pdw [] rfl rfl) (q_pdw [] rfl rfl)⟩
set_option maxHeartbeats 4000000 in
theorem ct_X4_ropesTo_467 {g : q_G} {t : Nat} {r : Nat} {m : Nat} {z : Nat} {N : Nat} {ext : Nat → q_Sh} {rx : Nat → Nat → Option Nat} {L : Nat → Nat → Int64} {d : Nat} (hd : 1 ≤ d)  {I : Nat → Nat → Int32} {E : Nat → Nat → Option Nat} {x1 : Int32} {r0 : Int32} (hf : f_X4_ropesTo (I 469) x1 = some r0) : q_Ct g m_X4_ropesTo d 0 0 [] [.ref 467, .int x1] (q_hp (t, r, m, z, N, ext, rx, L) I E) (fun o h' => o = .inl (some (.int r0)) ∧ h' = q_hp (t, r, m, z, N, ext, rx, L) (q_ws I []) (q_ws E [])) := by
  rw [f_X4_ropesTo] at hf
  refine q_Ct_of ok_X4_ropesTo (Nat.le_of_ble_eq_true rfl) ?_ _ rfl rfl
  change q_J g m_X4_ropesTo d 0 0 _ [] _ 0 0 (q_kc (t, r, m, z, N, ext, rx, L) I E 0 [some (.ref 467), some (.int x1)] [] [] [])
  refine q_blf 1 [] (a := q_kc (t, r, m, z, N, ext, rx, L) I E 10 [some (.ref 467), some (.int x1)] [] [] []) (b := q_kc (t, r, m, z, N, ext, rx, L) I E 2 [some (.ref 467), some (.int x1)] [] [] []) (P := x1 < 0) ok_X4_ropesTo rfl q_cn (fun h1 => ?_) (fun h1 => ?_)
  · have hf := q_ip h1 hf
    refine q_blk 1 [] (c' := q_kc (t, r, m, z, N, ext, rx, L) I E 11 [some (.ref 467), some (.int x1)] [.int (-1 : Int32)] [] []) ok_X4_ropesTo rfl q_cn ?_
    cases hf
    exact q_kri ok_X4_ropesTo rfl rfl rfl (Nat.le_of_ble_eq_true rfl) (Nat.le_of_ble_eq_true rfl) ⟨rfl, q_hpe (q_pdw [] rfl rfl) (q_pdw [] rfl rfl)⟩
  · have hf := q_in h1 hf
    refine q_blf 2 [] (a := q_kc (t, r, m, z, N, ext, rx, L) I E 10 [some (.ref 467), some (.int x1)] [] [] []) (b := q_kc (t, r, m, z, N, ext, rx, L) I E 5 [some (.ref 467), some (.int x1)] [] [] []) (P := (128 : Int32) ≤ x1) ok_X4_ropesTo rfl q_cn (fun h2 => ?_) (fun h2 => ?_)
    · have hf := q_ip h2 hf
      refine q_blk 1 [] (c' := q_kc (t, r, m, z, N, ext, rx, L) I E 11 [some (.ref 467), some (.int x1)] [.int (-1 : Int32)] [] []) ok_X4_ropesTo rfl q_cn ?_
      cases hf
      exact q_kri ok_X4_ropesTo rfl rfl rfl (Nat.le_of_ble_eq_true rfl) (Nat.le_of_ble_eq_true rfl) ⟨rfl, q_hpe (q_pdw [] rfl rfl) (q_pdw [] rfl rfl)⟩
    · have hf := q_in h2 hf
      obtain ⟨j3, hj3, hf⟩ := q_bd hf
      refine q_blk 5 [j3] (c' := q_kc (t, r, m, z, N, ext, rx, L) I E 11 [some (.ref 467), some (.int x1)] [.int ((I 469) j3)] [] []) ok_X4_ropesTo rfl (q_cc hj3 q_cn) ?_
      cases hf
      exact q_kri ok_X4_ropesTo rfl rfl rfl (Nat.le_of_ble_eq_true rfl) (Nat.le_of_ble_eq_true rfl) ⟨rfl, q_hpe (q_pdw [] rfl rfl) (q_pdw [] rfl rfl)⟩
set_option maxHeartbeats 4000000 in
theorem lp_X2_followLine_L17_457 {g : q_G} {d mc ms : Nat} {h0 : q_H} {Q : (Option Value ⊕ String) → q_H → Prop} {k n : Nat} {t : Nat} {r : Nat} {m : Nat} {z : Nat} {N : Nat} {ext : Nat → q_Sh} {rx : Nat → Nat → Option Nat} {L : Nat → Nat → Int64} (hd : 3 ≤ d) (hk : k ≤ mc) (hn : n ≤ ms)  {v1 : Int32} {v2 : Int32} : ∀ (fu : Nat) {I : Nat → Nat → Int32} {E : Nat → Nat → Option Nat} {v3 : Int32} {r0 : (Nat → Int32) × (Nat → Int32) × (Nat → Int32)} (hf : f_X2_followLine_L17 (I 463) (I 464) v2 fu (I 467) (I 468) (I 469) v3 = some r0) (hK0 : q_J g m_X2_followLine d mc ms h0 [] Q k n (q_kc (t, r, m, z, N, ext, rx, L) I E 40 [some (.ref 457), some (.int v1), none, none] [] [(467, r0.1), (468, r0.2.1), (469, r0.2.2)] [])), q_J g m_X2_followLine d mc ms h0 [] Q k n (17, [some (.ref 457), some (.int v1), some (.int v2), some (.int v3)], [], q_hp (t, r, m, z, N, ext, rx, L) I E) := by
  intro fu
  induction fu with
  | zero =>
    intro I E v3 r0 hf hK0
    rw [f_X2_followLine_L17] at hf
    cases hf
  | succ fu ih =>
    intro I E v3 r0 hf hK0
    rw [f_X2_followLine_L17] at hf
    change q_J g m_X2_followLine d mc ms h0 [] Q k n (q_kc (t, r, m, z, N, ext, rx, L) I E 17 [some (.ref 457), some (.int v1), some (.int v2), some (.int v3)] [] [] [])
    refine q_blk 4 [] (c' := q_kc (t, r, m, z, N, ext, rx, L) I E 21 [some (.ref 457), some (.int v1), some (.int v2), some (.int v3)] [.int v2, .ref 458, .int v3] [] []) ok_X2_followLine rfl q_cn ?_
    obtain ⟨r1, hr1, hf⟩ := q_bd hf
    refine q_kV (M2 := m_X1_ropes) (As := [.int v2]) (b := 458) (v2 := some (.int r1)) ok_X2_followLine ok_X1_ropes cv_X1_ropes (ct_X1_ropes_458 (d := 1) (Nat.le_refl _) hr1) rfl rfl (Or.inl rfl) rfl rfl rfl rfl (Nat.le_trans (Nat.le_of_ble_eq_true rfl) hd) hk hn (Nat.le_of_ble_eq_true rfl) (fun x hx => absurd hx List.not_mem_nil) (q_nmL0 _) (q_nmS0 _) rfl (pos' := 22) (st' := [.int r1, .int v3]) (lI' := []) (lE' := []) rfl rfl rfl rfl ?_
    refine q_blf 0 [] (a := q_kc (t, r, m, z, N, ext, rx, L) I E 40 [some (.ref 457), some (.int v1), some (.int v2), some (.int v3)] [] [] []) (b := q_kc (t, r, m, z, N, ext, rx, L) I E 23 [some (.ref 457), some (.int v1), some (.int v2), some (.int v3)] [] [] []) (P := r1 ≤ v3) ok_X2_followLine rfl q_cn (fun h2 => ?_) (fun h2 => ?_)
    · have hf := q_ip h2 hf
      refine q_less (ls' := [some (.ref 457), some (.int v1), none, none]) (q_sb2 (q_sb2 (q_sb1 (q_sb1 q_sb0)))) ?_
      cases hf
      exact q_Jpad (q_pdw [467, 468, 469] rfl rfl) (q_pdw [] rfl rfl) hK0
    · have hf := q_in h2 hf
      refine q_blk 6 [] (c' := q_kc (t, r, m, z, N, ext, rx, L) I E 29 [some (.ref 457), some (.int v1), some (.int v2), some (.int v3)] [.int v3, .int v2, .ref 458, .ref 467] [] []) ok_X2_followLine rfl q_cn ?_
      obtain ⟨r3, hr3, hf⟩ := q_bd hf
      refine q_kV (M2 := m_X1_lead) (As := [.int v2, .int v3]) (b := 458) (v2 := some (.int r3)) ok_X2_followLine ok_X1_lead cv_X1_lead (ct_X1_lead_458 (d := 2) (Nat.le_refl _) hr3) rfl rfl (Or.inl rfl) rfl rfl rfl rfl (Nat.le_trans (Nat.le_of_ble_eq_true rfl) hd) hk hn (Nat.le_of_ble_eq_true rfl) (fun x hx => absurd hx List.not_mem_nil) (q_nmL0 _) (q_nmS0 _) rfl (pos' := 30) (st' := [.int r3, .ref 467]) (lI' := []) (lE' := []) rfl rfl rfl rfl ?_
      refine q_blk 3 [] (c' := q_kc (t, r, m, z, N, ext, rx, L) I E 33 [some (.ref 457), some (.int v1), some (.int v2), some (.int v3)] [.int v2, .ref 467, .int r3, .ref 467] [] []) ok_X2_followLine rfl q_cn ?_
      obtain ⟨r4, hr4, hf⟩ := q_bd hf
      refine q_kV (M2 := m_X4_ropesTo) (As := [.int v2]) (b := 467) (v2 := some (.int r4)) ok_X2_followLine ok_X4_ropesTo cv_X4_ropesTo (ct_X4_ropesTo_467 (d := 1) (Nat.le_refl _) hr4) rfl rfl (Or.inl rfl) rfl rfl rfl rfl (Nat.le_trans (Nat.le_of_ble_eq_true rfl) hd) hk hn (Nat.le_of_ble_eq_true rfl) (fun x hx => absurd hx List.not_mem_nil) (q_nmL0 _) (q_nmS0 _) rfl (pos' := 34) (st' := [.int r4, .int r3, .ref 467]) (lI' := []) (lE' := []) rfl rfl rfl rfl ?_
      refine q_blk 2 [] (c' := q_kc (t, r, m, z, N, ext, rx, L) I E 36 [some (.ref 457), some (.int v1), some (.int v2), some (.int v3)] [.int (r4 + (1 : Int32)), .int r3, .ref 467] [] []) ok_X2_followLine rfl q_cn ?_
      obtain ⟨r5, hr5, hf⟩ := q_bd hf
      refine q_kV (M2 := m_X4_add) (As := [.int r3, .int (r4 + (1 : Int32))]) (b := 467) (v2 := some (.int (q_bz r5.1))) ok_X2_followLine ok_X4_add cv_X4_add (ct_X4_add_467 (d := 1) (Nat.le_refl _) hr5) rfl rfl (Or.inl rfl) rfl rfl rfl rfl (Nat.le_trans (Nat.le_of_ble_eq_true rfl) hd) hk hn (Nat.le_of_ble_eq_true rfl) (fun x hx => absurd hx List.not_mem_nil) (q_nmL0 _) (q_nmS0 _) rfl (pos' := 37) (st' := [.int (q_bz r5.1)]) (lI' := [(467, r5.2.1), (468, r5.2.2.1), (469, r5.2.2.2)]) (lE' := []) rfl rfl (q_mgw rfl rfl) rfl ?_
      refine q_blk 3 [] (c' := q_kc (t, r, m, z, N, ext, rx, L) I E 17 [some (.ref 457), some (.int v1), some (.int v2), some (.int (v3 + 1))] [] [(467, r5.2.1), (468, r5.2.2.1), (469, r5.2.2.2)] []) ok_X2_followLine rfl q_cn ?_
      exact ih (I := q_ws I [(467, r5.2.1), (468, r5.2.2.1), (469, r5.2.2.2)]) (E := q_ws E []) hf (q_Jmrg (q_mgw rfl rfl) (q_mgw rfl rfl) hK0)
set_option maxHeartbeats 4000000 in
theorem lp_X2_followLine_L2_457 {g : q_G} {d mc ms : Nat} {h0 : q_H} {Q : (Option Value ⊕ String) → q_H → Prop} {k n : Nat} {t : Nat} {r : Nat} {m : Nat} {z : Nat} {N : Nat} {ext : Nat → q_Sh} {rx : Nat → Nat → Option Nat} {L : Nat → Nat → Int64} (hd : 3 ≤ d) (hk : k ≤ mc) (hn : n ≤ ms)  : ∀ (fu : Nat) {I : Nat → Nat → Int32} {E : Nat → Nat → Option Nat} {v1 : Int32} {r0 : (Nat → Int32) × (Nat → Int32) × (Nat → Int32)} (hf : f_X2_followLine_L2 (I 463) (I 464) fu (I 467) (I 468) (I 469) v1 = some r0) (hK0 : q_J g m_X2_followLine d mc ms h0 [] Q k n (q_kc (t, r, m, z, N, ext, rx, L) I E 42 [none, none, none, none] [] [(467, r0.1), (468, r0.2.1), (469, r0.2.2)] [])), q_J g m_X2_followLine d mc ms h0 [] Q k n (2, [some (.ref 457), some (.int v1), none, none], [], q_hp (t, r, m, z, N, ext, rx, L) I E) := by
  intro fu
  induction fu with
  | zero =>
    intro I E v1 r0 hf hK0
    rw [f_X2_followLine_L2] at hf
    cases hf
  | succ fu ih =>
    intro I E v1 r0 hf hK0
    rw [f_X2_followLine_L2] at hf
    change q_J g m_X2_followLine d mc ms h0 [] Q k n (q_kc (t, r, m, z, N, ext, rx, L) I E 2 [some (.ref 457), some (.int v1), none, none] [] [] [])
    refine q_blf 2 [] (a := q_kc (t, r, m, z, N, ext, rx, L) I E 42 [some (.ref 457), some (.int v1), none, none] [] [] []) (b := q_kc (t, r, m, z, N, ext, rx, L) I E 5 [some (.ref 457), some (.int v1), none, none] [] [] []) (P := (128 : Int32) ≤ v1) ok_X2_followLine rfl q_cn (fun h6 => ?_) (fun h6 => ?_)
    · have hf := q_ip h6 hf
      refine q_less (ls' := [none, none, none, none]) (q_sb1 (q_sb1 (q_sb1 (q_sb1 q_sb0)))) ?_
      cases hf
      exact q_Jpad (q_pdw [467, 468, 469] rfl rfl) (q_pdw [] rfl rfl) hK0
    · have hf := q_in h6 hf
      refine q_blk 3 [] (c' := q_kc (t, r, m, z, N, ext, rx, L) I E 8 [some (.ref 457), some (.int v1), none, none] [.ref 467, .int v1] [] []) ok_X2_followLine rfl q_cn ?_
      obtain ⟨r7, hr7, hf⟩ := q_bd hf
      refine q_kV (M2 := m_X4_length) (As := []) (b := 467) (v2 := some (.int r7)) ok_X2_followLine ok_X4_length cv_X4_length (ct_X4_length_467 (d := 1) (Nat.le_refl _) hr7) rfl rfl (Or.inl rfl) rfl rfl rfl rfl (Nat.le_trans (Nat.le_of_ble_eq_true rfl) hd) hk hn (Nat.le_of_ble_eq_true rfl) (fun x hx => absurd hx List.not_mem_nil) (q_nmL0 _) (q_nmS0 _) rfl (pos' := 9) (st' := [.int r7, .int v1]) (lI' := []) (lE' := []) rfl rfl rfl rfl ?_
      refine q_blf 0 [] (a := q_kc (t, r, m, z, N, ext, rx, L) I E 42 [some (.ref 457), some (.int v1), none, none] [] [] []) (b := q_kc (t, r, m, z, N, ext, rx, L) I E 10 [some (.ref 457), some (.int v1), none, none] [] [] []) (P := r7 ≤ v1) ok_X2_followLine rfl q_cn (fun h8 => ?_) (fun h8 => ?_)
      · have hf := q_ip h8 hf
        refine q_less (ls' := [none, none, none, none]) (q_sb1 (q_sb1 (q_sb1 (q_sb1 q_sb0)))) ?_
        cases hf
        exact q_Jpad (q_pdw [467, 468, 469] rfl rfl) (q_pdw [] rfl rfl) hK0
      · have hf := q_in h8 hf
        refine q_blk 3 [] (c' := q_kc (t, r, m, z, N, ext, rx, L) I E 13 [some (.ref 457), some (.int v1), none, none] [.int v1, .ref 467] [] []) ok_X2_followLine rfl q_cn ?_
        obtain ⟨r9, hr9, hf⟩ := q_bd hf
        refine q_kV (M2 := m_X4_at) (As := [.int v1]) (b := 467) (v2 := some (.int r9)) ok_X2_followLine ok_X4_at cv_X4_at (ct_X4_at_467 (d := 1) (Nat.le_refl _) hr9) rfl rfl (Or.inl rfl) rfl rfl rfl rfl (Nat.le_trans (Nat.le_of_ble_eq_true rfl) hd) hk hn (Nat.le_of_ble_eq_true rfl) (fun x hx => absurd hx List.not_mem_nil) (q_nmL0 _) (q_nmS0 _) rfl (pos' := 14) (st' := [.int r9]) (lI' := []) (lE' := []) rfl rfl rfl rfl ?_
        refine q_blk 3 [] (c' := q_kc (t, r, m, z, N, ext, rx, L) I E 17 [some (.ref 457), some (.int v1), some (.int r9), some (.int (0 : Int32))] [] [] []) ok_X2_followLine rfl q_cn ?_
        obtain ⟨r10, hr10, hf⟩ := q_bd hf
        refine lp_X2_followLine_L17_457 (I := q_ws I []) (E := q_ws E []) hd hk hn 4096 hr10 ?_
        refine q_Jmrg (lI' := [(467, r10.1), (468, r10.2.1), (469, r10.2.2)]) (lE' := []) (q_mgw rfl rfl) (q_mgw rfl rfl) ?_
        refine q_blk 2 [] (c' := q_kc (t, r, m, z, N, ext, rx, L) I E 2 [some (.ref 457), some (.int (v1 + 1)), none, none] [] [(467, r10.1), (468, r10.2.1), (469, r10.2.2)] []) ok_X2_followLine rfl q_cn ?_
        exact ih (I := q_ws I [(467, r10.1), (468, r10.2.1), (469, r10.2.2)]) (E := q_ws E []) hf (q_Jmrg (q_mgw rfl rfl) (q_mgw rfl rfl) hK0)
set_option maxHeartbeats 4000000 in
theorem ct_X2_followLine_457 {g : q_G} {t : Nat} {r : Nat} {m : Nat} {z : Nat} {N : Nat} {ext : Nat → q_Sh} {rx : Nat → Nat → Option Nat} {L : Nat → Nat → Int64} {d : Nat} (hd : 3 ≤ d)  {I : Nat → Nat → Int32} {E : Nat → Nat → Option Nat} {r0 : (Nat → Int32) × (Nat → Int32) × (Nat → Int32)} (hf : f_X2_followLine (I 463) (I 464) (I 467) (I 468) (I 469) = some r0) : q_Ct g m_X2_followLine d 0 0 [] [.ref 457] (q_hp (t, r, m, z, N, ext, rx, L) I E) (fun o h' => o = .inl none ∧ h' = q_hp (t, r, m, z, N, ext, rx, L) (q_ws I [(467, r0.1), (468, r0.2.1), (469, r0.2.2)]) (q_ws E [])) := by
  rw [f_X2_followLine] at hf
  refine q_Ct_of ok_X2_followLine (Nat.le_of_ble_eq_true rfl) ?_ _ rfl rfl
  change q_J g m_X2_followLine d 0 0 _ [] _ 0 0 (q_kc (t, r, m, z, N, ext, rx, L) I E 0 [some (.ref 457), none, none, none] [] [] [])
  refine q_blk 2 [] (c' := q_kc (t, r, m, z, N, ext, rx, L) I E 2 [some (.ref 457), some (.int (0 : Int32)), none, none] [] [] []) ok_X2_followLine rfl q_cn ?_
  obtain ⟨r11, hr11, hf⟩ := q_bd hf
  refine lp_X2_followLine_L2_457 (I := q_ws I []) (E := q_ws E []) hd (Nat.le_of_ble_eq_true rfl) (Nat.le_of_ble_eq_true rfl) 4096 hr11 ?_
  refine q_Jmrg (lI' := [(467, r11.1), (468, r11.2.1), (469, r11.2.2)]) (lE' := []) (q_mgw rfl rfl) (q_mgw rfl rfl) ?_
  cases hf
  exact q_krv ok_X2_followLine rfl rfl (Nat.le_of_ble_eq_true rfl) (Nat.le_of_ble_eq_true rfl) ⟨rfl, q_hpe (q_pdw [467, 468, 469] rfl rfl) (q_pdw [] rfl rfl)⟩
set_option maxHeartbeats 4000000 in
theorem lp_X2_findReached_L5_457 {g : q_G} {d mc ms : Nat} {h0 : q_H} {Q : (Option Value ⊕ String) → q_H → Prop} {k n : Nat} {t : Nat} {r : Nat} {m : Nat} {z : Nat} {N : Nat} {ext : Nat → q_Sh} {rx : Nat → Nat → Option Nat} {L : Nat → Nat → Int64} (hd : 4 ≤ d) (hk : k ≤ mc) (hn : n ≤ ms)  : ∀ (fu : Nat) {I : Nat → Nat → Int32} {E : Nat → Nat → Option Nat} {v1 : Int32} {r0 : (Nat → Int32) × (Nat → Int32) × (Nat → Int32)} (hf : f_X2_findReached_L5 (I 470) fu (I 467) (I 468) (I 469) v1 = some r0) (hK0 : q_J g m_X2_findReached d mc ms h0 [] Q k n (q_kc (t, r, m, z, N, ext, rx, L) I E 18 [some (.ref 457), none] [] [(467, r0.1), (468, r0.2.1), (469, r0.2.2)] [])), q_J g m_X2_findReached d mc ms h0 [] Q k n (5, [some (.ref 457), some (.int v1)], [], q_hp (t, r, m, z, N, ext, rx, L) I E) := by
  intro fu
  induction fu with
  | zero =>
    intro I E v1 r0 hf hK0
    rw [f_X2_findReached_L5] at hf
    cases hf
  | succ fu ih =>
    intro I E v1 r0 hf hK0
    rw [f_X2_findReached_L5] at hf
    change q_J g m_X2_findReached d mc ms h0 [] Q k n (q_kc (t, r, m, z, N, ext, rx, L) I E 5 [some (.ref 457), some (.int v1)] [] [] [])
    refine q_blf 2 [] (a := q_kc (t, r, m, z, N, ext, rx, L) I E 18 [some (.ref 457), some (.int v1)] [] [] []) (b := q_kc (t, r, m, z, N, ext, rx, L) I E 8 [some (.ref 457), some (.int v1)] [] [] []) (P := (6 : Int32) ≤ v1) ok_X2_findReached rfl q_cn (fun h1 => ?_) (fun h1 => ?_)
    · have hf := q_ip h1 hf
      refine q_less (ls' := [some (.ref 457), none]) (q_sb2 (q_sb1 q_sb0)) ?_
      cases hf
      exact q_Jpad (q_pdw [467, 468, 469] rfl rfl) (q_pdw [] rfl rfl) hK0
    · have hf := q_in h1 hf
      refine q_blk 4 [] (c' := q_kc (t, r, m, z, N, ext, rx, L) I E 12 [some (.ref 457), some (.int v1)] [.int v1, .ref 457, .ref 467] [] []) ok_X2_findReached rfl q_cn ?_
      obtain ⟨r2, hr2, hf⟩ := q_bd hf
      refine q_kV (M2 := m_X2_held) (As := [.int v1]) (b := 457) (v2 := some (.int r2)) ok_X2_findReached ok_X2_held cv_X2_held (ct_X2_held_457 (d := 1) (Nat.le_refl _) hr2) rfl rfl (Or.inl rfl) rfl rfl rfl rfl (Nat.le_trans (Nat.le_of_ble_eq_true rfl) hd) hk hn (Nat.le_of_ble_eq_true rfl) (fun x hx => absurd hx List.not_mem_nil) (q_nmL0 _) (q_nmS0 _) rfl (pos' := 13) (st' := [.int r2, .ref 467]) (lI' := []) (lE' := []) rfl rfl rfl rfl ?_
      refine q_blk 1 [] (c' := q_kc (t, r, m, z, N, ext, rx, L) I E 14 [some (.ref 457), some (.int v1)] [.int (0 : Int32), .int r2, .ref 467] [] []) ok_X2_findReached rfl q_cn ?_
      obtain ⟨r3, hr3, hf⟩ := q_bd hf
      refine q_kV (M2 := m_X4_add) (As := [.int r2, .int (0 : Int32)]) (b := 467) (v2 := some (.int (q_bz r3.1))) ok_X2_findReached ok_X4_add cv_X4_add (ct_X4_add_467 (d := 1) (Nat.le_refl _) hr3) rfl rfl (Or.inl rfl) rfl rfl rfl rfl (Nat.le_trans (Nat.le_of_ble_eq_true rfl) hd) hk hn (Nat.le_of_ble_eq_true rfl) (fun x hx => absurd hx List.not_mem_nil) (q_nmL0 _) (q_nmS0 _) rfl (pos' := 15) (st' := [.int (q_bz r3.1)]) (lI' := [(467, r3.2.1), (468, r3.2.2.1), (469, r3.2.2.2)]) (lE' := []) rfl rfl (q_mgw rfl rfl) rfl ?_
      refine q_blk 3 [] (c' := q_kc (t, r, m, z, N, ext, rx, L) I E 5 [some (.ref 457), some (.int (v1 + 1))] [] [(467, r3.2.1), (468, r3.2.2.1), (469, r3.2.2.2)] []) ok_X2_findReached rfl q_cn ?_
      exact ih (I := q_ws I [(467, r3.2.1), (468, r3.2.2.1), (469, r3.2.2.2)]) (E := q_ws E []) hf (q_Jmrg (q_mgw rfl rfl) (q_mgw rfl rfl) hK0)
set_option maxHeartbeats 4000000 in
theorem ct_X2_findReached_457 {g : q_G} {t : Nat} {r : Nat} {m : Nat} {z : Nat} {N : Nat} {ext : Nat → q_Sh} {rx : Nat → Nat → Option Nat} {L : Nat → Nat → Int64} {d : Nat} (hd : 4 ≤ d)  {I : Nat → Nat → Int32} {E : Nat → Nat → Option Nat} {r0 : (Nat → Int32) × (Nat → Int32) × (Nat → Int32)} (hf : f_X2_findReached (I 463) (I 464) (I 467) (I 468) (I 469) (I 470) = some r0) : q_Ct g m_X2_findReached d 0 0 [] [.ref 457] (q_hp (t, r, m, z, N, ext, rx, L) I E) (fun o h' => o = .inl none ∧ h' = q_hp (t, r, m, z, N, ext, rx, L) (q_ws I [(467, r0.1), (468, r0.2.1), (469, r0.2.2)]) (q_ws E [])) := by
  rw [f_X2_findReached] at hf
  refine q_Ct_of ok_X2_findReached (Nat.le_of_ble_eq_true rfl) ?_ _ rfl rfl
  change q_J g m_X2_findReached d 0 0 _ [] _ 0 0 (q_kc (t, r, m, z, N, ext, rx, L) I E 0 [some (.ref 457), none] [] [] [])
  refine q_blk 2 [] (c' := q_kc (t, r, m, z, N, ext, rx, L) I E 2 [some (.ref 457), none] [.ref 467] [] []) ok_X2_findReached rfl q_cn ?_
  obtain ⟨r4, hr4, hf⟩ := q_bd hf
  refine q_kV (M2 := m_X4_clear) (As := []) (b := 467) (v2 := none) ok_X2_findReached ok_X4_clear cv_X4_clear (ct_X4_clear_467 (d := 2) (Nat.le_refl _) hr4) rfl rfl (Or.inl rfl) rfl rfl rfl rfl (Nat.le_trans (Nat.le_of_ble_eq_true rfl) hd) (Nat.le_of_ble_eq_true rfl) (Nat.le_of_ble_eq_true rfl) (Nat.le_of_ble_eq_true rfl) (fun x hx => absurd hx List.not_mem_nil) (q_nmL0 _) (q_nmS0 _) rfl (pos' := 3) (st' := []) (lI' := [(467, r4.1), (469, r4.2)]) (lE' := []) rfl rfl (q_mgw rfl rfl) rfl ?_
  refine q_blk 2 [] (c' := q_kc (t, r, m, z, N, ext, rx, L) I E 5 [some (.ref 457), some (.int (0 : Int32))] [] [(467, r4.1), (469, r4.2)] []) ok_X2_findReached rfl q_cn ?_
  obtain ⟨r5, hr5, hf⟩ := q_bd hf
  refine lp_X2_findReached_L5_457 (I := q_ws I [(467, r4.1), (469, r4.2)]) (E := q_ws E []) hd (Nat.le_of_ble_eq_true rfl) (Nat.le_of_ble_eq_true rfl) 4096 hr5 ?_
  refine q_Jmrg (lI' := [(467, r5.1), (468, r5.2.1), (469, r5.2.2)]) (lE' := []) (q_mgw rfl rfl) (q_mgw rfl rfl) ?_
  refine q_blk 1 [] (c' := q_kc (t, r, m, z, N, ext, rx, L) I E 19 [some (.ref 457), none] [.ref 457] [(467, r5.1), (468, r5.2.1), (469, r5.2.2)] []) ok_X2_findReached rfl q_cn ?_
  obtain ⟨r6, hr6, hf⟩ := q_bd hf
  refine q_kV (M2 := m_X2_followLine) (As := []) (b := 457) (v2 := none) ok_X2_findReached ok_X2_followLine cv_X2_followLine (ct_X2_followLine_457 (d := 3) (Nat.le_refl _) hr6) rfl rfl (Or.inl rfl) rfl rfl rfl rfl (Nat.le_trans (Nat.le_of_ble_eq_true rfl) hd) (Nat.le_of_ble_eq_true rfl) (Nat.le_of_ble_eq_true rfl) (Nat.le_of_ble_eq_true rfl) (fun x hx => absurd hx List.not_mem_nil) (q_nmL0 _) (q_nmS0 _) rfl (pos' := 20) (st' := []) (lI' := [(467, r6.1), (468, r6.2.1), (469, r6.2.2)]) (lE' := []) rfl rfl (q_mgw rfl rfl) rfl ?_
  cases hf
  exact q_krv ok_X2_findReached rfl rfl (Nat.le_of_ble_eq_true rfl) (Nat.le_of_ble_eq_true rfl) ⟨rfl, q_hpe (q_pdw [467, 468, 469] rfl rfl) (q_pdw [] rfl rfl)⟩
set_option maxHeartbeats 4000000 in
theorem ct_X2_uselessCount_457 {g : q_G} {t : Nat} {r : Nat} {m : Nat} {z : Nat} {N : Nat} {ext : Nat → q_Sh} {rx : Nat → Nat → Option Nat} {L : Nat → Nat → Int64} {d : Nat} (hd : 5 ≤ d)  {I : Nat → Nat → Int32} {E : Nat → Nat → Option Nat} {r0 : Int32 × (Nat → Int32) × (Nat → Int32) × (Nat → Int32)} (hf : f_X2_uselessCount (I 457) (I 463) (I 464) (I 465) (I 467) (I 468) (I 469) (I 470) = some r0) : q_Ct g m_X2_uselessCount d 0 0 [] [.ref 457] (q_hp (t, r, m, z, N, ext, rx, L) I E) (fun o h' => o = .inl (some (.int r0.1)) ∧ h' = q_hp (t, r, m, z, N, ext, rx, L) (q_ws I [(467, r0.2.1), (468, r0.2.2.1), (469, r0.2.2.2)]) (q_ws E [])) := by
  rw [f_X2_uselessCount] at hf
  refine q_Ct_of ok_X2_uselessCount (Nat.le_of_ble_eq_true rfl) ?_ _ rfl rfl
  change q_J g m_X2_uselessCount d 0 0 _ [] _ 0 0 (q_kc (t, r, m, z, N, ext, rx, L) I E 0 [some (.ref 457)] [] [] [])
  refine q_blk 1 [] (c' := q_kc (t, r, m, z, N, ext, rx, L) I E 1 [some (.ref 457)] [.ref 457] [] []) ok_X2_uselessCount rfl q_cn ?_
  obtain ⟨r1, hr1, hf⟩ := q_bd hf
  refine q_kV (M2 := m_X2_findReached) (As := []) (b := 457) (v2 := none) ok_X2_uselessCount ok_X2_findReached cv_X2_findReached (ct_X2_findReached_457 (d := 4) (Nat.le_refl _) hr1) rfl rfl (Or.inl rfl) rfl rfl rfl rfl (Nat.le_trans (Nat.le_of_ble_eq_true rfl) hd) (Nat.le_of_ble_eq_true rfl) (Nat.le_of_ble_eq_true rfl) (Nat.le_of_ble_eq_true rfl) (fun x hx => absurd hx List.not_mem_nil) (q_nmL0 _) (q_nmS0 _) rfl (pos' := 2) (st' := []) (lI' := [(467, r1.1), (468, r1.2.1), (469, r1.2.2)]) (lE' := []) rfl rfl (q_mgw rfl rfl) rfl ?_
  refine q_blk 1 [] (c' := q_kc (t, r, m, z, N, ext, rx, L) I E 3 [some (.ref 457)] [.ref 457] [(467, r1.1), (468, r1.2.1), (469, r1.2.2)] []) ok_X2_uselessCount rfl q_cn ?_
  obtain ⟨r2, hr2, hf⟩ := q_bd hf
  refine q_kV (M2 := m_X2_baleCount) (As := []) (b := 457) (v2 := some (.int r2)) ok_X2_uselessCount ok_X2_baleCount cv_X2_baleCount (ct_X2_baleCount_457 (d := 1) (Nat.le_refl _) hr2) rfl rfl (Or.inl rfl) rfl rfl rfl rfl (Nat.le_trans (Nat.le_of_ble_eq_true rfl) hd) (Nat.le_of_ble_eq_true rfl) (Nat.le_of_ble_eq_true rfl) (Nat.le_of_ble_eq_true rfl) (fun x hx => absurd hx List.not_mem_nil) (q_nmL0 _) (q_nmS0 _) rfl (pos' := 4) (st' := [.int r2]) (lI' := [(467, r1.1), (468, r1.2.1), (469, r1.2.2)]) (lE' := []) rfl rfl rfl rfl ?_
  refine q_blk 2 [] (c' := q_kc (t, r, m, z, N, ext, rx, L) I E 6 [some (.ref 457)] [.ref 467, .int r2] [(467, r1.1), (468, r1.2.1), (469, r1.2.2)] []) ok_X2_uselessCount rfl q_cn ?_
  obtain ⟨r3, hr3, hf⟩ := q_bd hf
  refine q_kV (M2 := m_X4_length) (As := []) (b := 467) (v2 := some (.int r3)) ok_X2_uselessCount ok_X4_length cv_X4_length (ct_X4_length_467 (d := 1) (Nat.le_refl _) hr3) rfl rfl (Or.inl rfl) rfl rfl rfl rfl (Nat.le_trans (Nat.le_of_ble_eq_true rfl) hd) (Nat.le_of_ble_eq_true rfl) (Nat.le_of_ble_eq_true rfl) (Nat.le_of_ble_eq_true rfl) (fun x hx => absurd hx List.not_mem_nil) (q_nmL0 _) (q_nmS0 _) rfl (pos' := 7) (st' := [.int r3, .int r2]) (lI' := [(467, r1.1), (468, r1.2.1), (469, r1.2.2)]) (lE' := []) rfl rfl rfl rfl ?_
  refine q_blk 1 [] (c' := q_kc (t, r, m, z, N, ext, rx, L) I E 8 [some (.ref 457)] [.int (r2 - r3)] [(467, r1.1), (468, r1.2.1), (469, r1.2.2)] []) ok_X2_uselessCount rfl q_cn ?_
  cases hf
  exact q_kri ok_X2_uselessCount rfl rfl rfl (Nat.le_of_ble_eq_true rfl) (Nat.le_of_ble_eq_true rfl) ⟨rfl, q_hpe (q_pdw [467, 468, 469] rfl rfl) (q_pdw [] rfl rfl)⟩
set_option maxHeartbeats 4000000 in
theorem ct_X12_uselessBales_400 {g : q_G} {t : Nat} {r : Nat} {m : Nat} {z : Nat} {N : Nat} {ext : Nat → q_Sh} {rx : Nat → Nat → Option Nat} {L : Nat → Nat → Int64} {d : Nat} (hd : 6 ≤ d)  {I : Nat → Nat → Int32} {E : Nat → Nat → Option Nat} {r0 : Int32 × (Nat → Int32) × (Nat → Int32) × (Nat → Int32)} (hf : f_X12_uselessBales (I 457) (I 463) (I 464) (I 465) (I 467) (I 468) (I 469) (I 470) = some r0) : q_Ct g m_X12_uselessBales d 0 0 [] [.ref 400] (q_hp (t, r, m, z, N, ext, rx, L) I E) (fun o h' => o = .inl (some (.int r0.1)) ∧ h' = q_hp (t, r, m, z, N, ext, rx, L) (q_ws I [(467, r0.2.1), (468, r0.2.2.1), (469, r0.2.2.2)]) (q_ws E [])) := by
  rw [f_X12_uselessBales] at hf
  refine q_Ct_of ok_X12_uselessBales (Nat.le_of_ble_eq_true rfl) ?_ _ rfl rfl
  change q_J g m_X12_uselessBales d 0 0 _ [] _ 0 0 (q_kc (t, r, m, z, N, ext, rx, L) I E 0 [some (.ref 400)] [] [] [])
  refine q_blk 2 [] (c' := q_kc (t, r, m, z, N, ext, rx, L) I E 2 [some (.ref 400)] [.ref 457] [] []) ok_X12_uselessBales rfl q_cn ?_
  obtain ⟨r1, hr1, hf⟩ := q_bd hf
  refine q_kV (M2 := m_X2_uselessCount) (As := []) (b := 457) (v2 := some (.int r1.1)) ok_X12_uselessBales ok_X2_uselessCount cv_X2_uselessCount (ct_X2_uselessCount_457 (d := 5) (Nat.le_refl _) hr1) rfl rfl (Or.inl rfl) rfl rfl rfl rfl (Nat.le_trans (Nat.le_of_ble_eq_true rfl) hd) (Nat.le_of_ble_eq_true rfl) (Nat.le_of_ble_eq_true rfl) (Nat.le_of_ble_eq_true rfl) (fun x hx => absurd hx List.not_mem_nil) (q_nmL0 _) (q_nmS0 _) rfl (pos' := 3) (st' := [.int r1.1]) (lI' := [(467, r1.2.1), (468, r1.2.2.1), (469, r1.2.2.2)]) (lE' := []) rfl rfl (q_mgw rfl rfl) rfl ?_
  cases hf
  exact q_kri ok_X12_uselessBales rfl rfl rfl (Nat.le_of_ble_eq_true rfl) (Nat.le_of_ble_eq_true rfl) ⟨rfl, q_hpe (q_pdw [467, 468, 469] rfl rfl) (q_pdw [] rfl rfl)⟩
set_option maxHeartbeats 4000000 in
theorem ct_X12_copyings_400 {g : q_G} {t : Nat} {r : Nat} {m : Nat} {z : Nat} {N : Nat} {ext : Nat → q_Sh} {rx : Nat → Nat → Option Nat} {L : Nat → Nat → Int64} {d : Nat} (hd : 1 ≤ d)  {I : Nat → Nat → Int32} {E : Nat → Nat → Option Nat} {r0 : Int32} (hf : f_X12_copyings (I 457) = some r0) : q_Ct g m_X12_copyings d 0 0 [] [.ref 400] (q_hp (t, r, m, z, N, ext, rx, L) I E) (fun o h' => o = .inl (some (.int r0)) ∧ h' = q_hp (t, r, m, z, N, ext, rx, L) (q_ws I []) (q_ws E [])) := by
  rw [f_X12_copyings] at hf
  refine q_Ct_of ok_X12_copyings (Nat.le_of_ble_eq_true rfl) ?_ _ rfl rfl
  change q_J g m_X12_copyings d 0 0 _ [] _ 0 0 (q_kc (t, r, m, z, N, ext, rx, L) I E 0 [some (.ref 400)] [] [] [])
  refine q_blk 3 [] (c' := q_kc (t, r, m, z, N, ext, rx, L) I E 3 [some (.ref 400)] [.int ((I 457) 12)] [] []) ok_X12_copyings rfl q_cn ?_
  cases hf
  exact q_kri ok_X12_copyings rfl rfl rfl (Nat.le_of_ble_eq_true rfl) (Nat.le_of_ble_eq_true rfl) ⟨rfl, q_hpe (q_pdw [] rfl rfl) (q_pdw [] rfl rfl)⟩
set_option maxHeartbeats 4000000 in
theorem ct_X12_balesPromoted_400 {g : q_G} {t : Nat} {r : Nat} {m : Nat} {z : Nat} {N : Nat} {ext : Nat → q_Sh} {rx : Nat → Nat → Option Nat} {L : Nat → Nat → Int64} {d : Nat} (hd : 1 ≤ d)  {I : Nat → Nat → Int32} {E : Nat → Nat → Option Nat} {r0 : Int32} (hf : f_X12_balesPromoted (I 457) = some r0) : q_Ct g m_X12_balesPromoted d 0 0 [] [.ref 400] (q_hp (t, r, m, z, N, ext, rx, L) I E) (fun o h' => o = .inl (some (.int r0)) ∧ h' = q_hp (t, r, m, z, N, ext, rx, L) (q_ws I []) (q_ws E [])) := by
  rw [f_X12_balesPromoted] at hf
  refine q_Ct_of ok_X12_balesPromoted (Nat.le_of_ble_eq_true rfl) ?_ _ rfl rfl
  change q_J g m_X12_balesPromoted d 0 0 _ [] _ 0 0 (q_kc (t, r, m, z, N, ext, rx, L) I E 0 [some (.ref 400)] [] [] [])
  refine q_blk 3 [] (c' := q_kc (t, r, m, z, N, ext, rx, L) I E 3 [some (.ref 400)] [.int ((I 457) 13)] [] []) ok_X12_balesPromoted rfl q_cn ?_
  cases hf
  exact q_kri ok_X12_balesPromoted rfl rfl rfl (Nat.le_of_ble_eq_true rfl) (Nat.le_of_ble_eq_true rfl) ⟨rfl, q_hpe (q_pdw [] rfl rfl) (q_pdw [] rfl rfl)⟩
set_option maxHeartbeats 4000000 in
theorem ct_X12_balesGone_400 {g : q_G} {t : Nat} {r : Nat} {m : Nat} {z : Nat} {N : Nat} {ext : Nat → q_Sh} {rx : Nat → Nat → Option Nat} {L : Nat → Nat → Int64} {d : Nat} (hd : 1 ≤ d)  {I : Nat → Nat → Int32} {E : Nat → Nat → Option Nat} {r0 : Int32} (hf : f_X12_balesGone (I 457) = some r0) : q_Ct g m_X12_balesGone d 0 0 [] [.ref 400] (q_hp (t, r, m, z, N, ext, rx, L) I E) (fun o h' => o = .inl (some (.int r0)) ∧ h' = q_hp (t, r, m, z, N, ext, rx, L) (q_ws I []) (q_ws E [])) := by
  rw [f_X12_balesGone] at hf
  refine q_Ct_of ok_X12_balesGone (Nat.le_of_ble_eq_true rfl) ?_ _ rfl rfl
  change q_J g m_X12_balesGone d 0 0 _ [] _ 0 0 (q_kc (t, r, m, z, N, ext, rx, L) I E 0 [some (.ref 400)] [] [] [])
  refine q_blk 3 [] (c' := q_kc (t, r, m, z, N, ext, rx, L) I E 3 [some (.ref 400)] [.int ((I 457) 14)] [] []) ok_X12_balesGone rfl q_cn ?_
  cases hf
  exact q_kri ok_X12_balesGone rfl rfl rfl (Nat.le_of_ble_eq_true rfl) (Nat.le_of_ble_eq_true rfl) ⟨rfl, q_hpe (q_pdw [] rfl rfl) (q_pdw [] rfl rfl)⟩
set_option maxHeartbeats 4000000 in
theorem ct_X12_checkHook_400 {g : q_G} {t : Nat} {r : Nat} {m : Nat} {z : Nat} {N : Nat} {ext : Nat → q_Sh} {rx : Nat → Nat → Option Nat} {L : Nat → Nat → Int64} {d : Nat} (hd : 6 ≤ d)  {I : Nat → Nat → Int32} {E : Nat → Nat → Option Nat} {x1 : Int32} {r0 : (Unit ⊕ String)} (hf : f_X12_checkHook (I 402) x1 = some r0) : q_Ct g m_X12_checkHook d 1 6 [] [.ref 400, .int x1] (q_hp (t, r, m, z, N, ext, rx, L) I E) (fun o h' => o = q_oV r0 ∧ h' = q_hp (t, r, m, z, N, ext, rx, L) (q_ws I []) (q_ws E [])) := by
  rw [f_X12_checkHook] at hf
  refine q_Ct_of ok_X12_checkHook (Nat.le_of_ble_eq_true rfl) ?_ _ rfl rfl
  change q_J g m_X12_checkHook d 1 6 _ [] _ 0 0 (q_kc (t, r, m, z, N, ext, rx, L) I E 0 [some (.ref 400), some (.int x1)] [] [] [])
  refine q_blf 1 [] (a := q_kc (t, r, m, z, N, ext, rx, L) I E 7 [some (.ref 400), some (.int x1)] [] [] []) (b := q_kc (t, r, m, z, N, ext, rx, L) I E 2 [some (.ref 400), some (.int x1)] [] [] []) (P := x1 < 0) ok_X12_checkHook rfl q_cn (fun h1 => ?_) (fun h1 => ?_)
  · have hf := q_ip h1 hf
    cases hf
    exact q_o_throwS ok_X12_checkHook rfl rfl rfl rfl rfl rfl q_inIOB msg_2 thr_2 q_fitIOB q_fits (Nat.le_trans (Nat.le_of_ble_eq_true rfl) hd) (Nat.le_of_ble_eq_true rfl) (Nat.le_of_ble_eq_true rfl) (Nat.le_of_ble_eq_true rfl) ⟨rfl, q_hpe (q_pdw [] rfl rfl) (q_pdw [] rfl rfl)⟩
  · have hf := q_in h1 hf
    refine q_blf 4 [] (a := q_kc (t, r, m, z, N, ext, rx, L) I E 12 [some (.ref 400), some (.int x1)] [] [] []) (b := q_kc (t, r, m, z, N, ext, rx, L) I E 7 [some (.ref 400), some (.int x1)] [] [] []) (P := x1 < ((I 402) 3)) ok_X12_checkHook rfl q_cn (fun h2 => ?_) (fun h2 => ?_)
    · have hf := q_ip h2 hf
      cases hf
      exact q_krv ok_X12_checkHook rfl rfl (Nat.le_of_ble_eq_true rfl) (Nat.le_of_ble_eq_true rfl) ⟨rfl, q_hpe (q_pdw [] rfl rfl) (q_pdw [] rfl rfl)⟩
    · have hf := q_in h2 hf
      cases hf
      exact q_o_throwS ok_X12_checkHook rfl rfl rfl rfl rfl rfl q_inIOB msg_2 thr_2 q_fitIOB q_fits (Nat.le_trans (Nat.le_of_ble_eq_true rfl) hd) (Nat.le_of_ble_eq_true rfl) (Nat.le_of_ble_eq_true rfl) (Nat.le_of_ble_eq_true rfl) ⟨rfl, q_hpe (q_pdw [] rfl rfl) (q_pdw [] rfl rfl)⟩
set_option maxHeartbeats 4000000 in
theorem ct_X12_holdsBale_400 {g : q_G} {t : Nat} {r : Nat} {m : Nat} {z : Nat} {N : Nat} {ext : Nat → q_Sh} {rx : Nat → Nat → Option Nat} {L : Nat → Nat → Int64} {d : Nat} (hd : 7 ≤ d)  {I : Nat → Nat → Int32} {E : Nat → Nat → Option Nat} {x1 : Int32} {r0 : (Bool ⊕ String)} (hf : f_X12_holdsBale (I 402) (I 470) x1 = some r0) : q_Ct g m_X12_holdsBale d 1 6 [] [.ref 400, .int x1] (q_hp (t, r, m, z, N, ext, rx, L) I E) (fun o h' => o = q_oZ r0 ∧ h' = q_hp (t, r, m, z, N, ext, rx, L) (q_ws I []) (q_ws E [])) := by
  rw [f_X12_holdsBale] at hf
  refine q_Ct_of ok_X12_holdsBale (Nat.le_of_ble_eq_true rfl) ?_ _ rfl rfl
  change q_J g m_X12_holdsBale d 1 6 _ [] _ 0 0 (q_kc (t, r, m, z, N, ext, rx, L) I E 0 [some (.ref 400), some (.int x1)] [] [] [])
  refine q_blk 2 [] (c' := q_kc (t, r, m, z, N, ext, rx, L) I E 2 [some (.ref 400), some (.int x1)] [.int x1, .ref 400] [] []) ok_X12_holdsBale rfl q_cn ?_
  obtain ⟨r1, hr1, hf⟩ := q_bd hf
  cases hv4 : r1 with
  | inl v2 =>
    have hf := q_sm0 hv4 hf
    refine q_kV (M2 := m_X12_checkHook) (As := [.int x1]) (b := 400) (v2 := none) ok_X12_holdsBale ok_X12_checkHook cv_X12_checkHook (ct_X12_checkHook_400 (d := 6) (Nat.le_refl _) hr1) (q_oVl hv4) rfl (Or.inl rfl) rfl rfl rfl rfl (Nat.le_trans (Nat.le_of_ble_eq_true rfl) hd) (Nat.le_of_ble_eq_true rfl) (Nat.le_of_ble_eq_true rfl) (Nat.le_of_ble_eq_true rfl) (fun x hx => absurd hx List.not_mem_nil) (q_nmL0 _) (q_nmS0 _) rfl (pos' := 3) (st' := []) (lI' := []) (lE' := []) rfl rfl rfl rfl ?_
    refine q_blk 3 [] (c' := q_kc (t, r, m, z, N, ext, rx, L) I E 6 [some (.ref 400), some (.int x1)] [.int x1, .ref 457] [] []) ok_X12_holdsBale rfl q_cn ?_
    obtain ⟨r5, hr5, hf⟩ := q_bd hf
    refine q_kV (M2 := m_X2_held) (As := [.int x1]) (b := 457) (v2 := some (.int r5)) ok_X12_holdsBale ok_X2_held cv_X2_held (ct_X2_held_457 (d := 1) (Nat.le_refl _) hr5) rfl rfl (Or.inl rfl) rfl rfl rfl rfl (Nat.le_trans (Nat.le_of_ble_eq_true rfl) hd) (Nat.le_of_ble_eq_true rfl) (Nat.le_of_ble_eq_true rfl) (Nat.le_of_ble_eq_true rfl) (fun x hx => absurd hx List.not_mem_nil) (q_nmL0 _) (q_nmS0 _) rfl (pos' := 7) (st' := [.int r5]) (lI' := []) (lE' := []) rfl rfl rfl rfl ?_
    refine q_blf 1 [] (a := q_kc (t, r, m, z, N, ext, rx, L) I E 11 [some (.ref 400), some (.int x1)] [] [] []) (b := q_kc (t, r, m, z, N, ext, rx, L) I E 9 [some (.ref 400), some (.int x1)] [] [] []) (P := r5 = (-1 : Int32)) ok_X12_holdsBale rfl q_cn (fun h6 => ?_) (fun h6 => ?_)
    · have hf := q_ip h6 hf
      refine q_blk 1 [] (c' := q_kc (t, r, m, z, N, ext, rx, L) I E 12 [some (.ref 400), some (.int x1)] [.int (0 : Int32)] [] []) ok_X12_holdsBale rfl q_cn ?_
      cases hf
      exact q_kri ok_X12_holdsBale rfl rfl rfl (Nat.le_of_ble_eq_true rfl) (Nat.le_of_ble_eq_true rfl) ⟨rfl, q_hpe (q_pdw [] rfl rfl) (q_pdw [] rfl rfl)⟩
    · have hf := q_in h6 hf
      refine q_blk 2 [] (c' := q_kc (t, r, m, z, N, ext, rx, L) I E 12 [some (.ref 400), some (.int x1)] [.int (1 : Int32)] [] []) ok_X12_holdsBale rfl q_cn ?_
      cases hf
      exact q_kri ok_X12_holdsBale rfl rfl rfl (Nat.le_of_ble_eq_true rfl) (Nat.le_of_ble_eq_true rfl) ⟨rfl, q_hpe (q_pdw [] rfl rfl) (q_pdw [] rfl rfl)⟩
  | inr e3 =>
    have hf := q_sm1 hv4 hf
    cases hf
    refine q_kVx (M2 := m_X12_checkHook) (As := [.int x1]) (b := 400) ok_X12_holdsBale ok_X12_checkHook cv_X12_checkHook (ct_X12_checkHook_400 (d := 6) (Nat.le_refl _) hr1) (q_oVr hv4) rfl (Or.inl rfl) rfl rfl rfl rfl (Nat.le_trans (Nat.le_of_ble_eq_true rfl) hd) (Nat.le_of_ble_eq_true rfl) (Nat.le_of_ble_eq_true rfl) (Nat.le_of_ble_eq_true rfl) (fun x hx => absurd hx List.not_mem_nil) (q_nmL0 _) (q_nmS0 _) rfl (lI' := []) (lE' := []) rfl rfl ⟨rfl, q_hpe (q_pdw [] rfl rfl) (q_pdw [] rfl rfl)⟩
set_option maxHeartbeats 4000000 in
theorem ct_X12_heldBale_400 {g : q_G} {t : Nat} {r : Nat} {m : Nat} {z : Nat} {N : Nat} {ext : Nat → q_Sh} {rx : Nat → Nat → Option Nat} {L : Nat → Nat → Int64} {d : Nat} (hd : 7 ≤ d)  {I : Nat → Nat → Int32} {E : Nat → Nat → Option Nat} {x1 : Int32} {r0 : (Int32 ⊕ String)} (hf : f_X12_heldBale (I 402) (I 470) x1 = some r0) : q_Ct g m_X12_heldBale d 2 12 [] [.ref 400, .int x1] (q_hp (t, r, m, z, N, ext, rx, L) I E) (fun o h' => o = q_oI r0 ∧ h' = q_hp (t, r, m, z, N, ext, rx, L) (q_ws I []) (q_ws E [])) := by
  rw [f_X12_heldBale] at hf
  refine q_Ct_of ok_X12_heldBale (Nat.le_of_ble_eq_true rfl) ?_ _ rfl rfl
  change q_J g m_X12_heldBale d 2 12 _ [] _ 0 0 (q_kc (t, r, m, z, N, ext, rx, L) I E 0 [some (.ref 400), some (.int x1), none] [] [] [])
  refine q_blk 2 [] (c' := q_kc (t, r, m, z, N, ext, rx, L) I E 2 [some (.ref 400), some (.int x1), none] [.int x1, .ref 400] [] []) ok_X12_heldBale rfl q_cn ?_
  obtain ⟨r1, hr1, hf⟩ := q_bd hf
  cases hv4 : r1 with
  | inl v2 =>
    have hf := q_sm0 hv4 hf
    refine q_kV (M2 := m_X12_checkHook) (As := [.int x1]) (b := 400) (v2 := none) ok_X12_heldBale ok_X12_checkHook cv_X12_checkHook (ct_X12_checkHook_400 (d := 6) (Nat.le_refl _) hr1) (q_oVl hv4) rfl (Or.inl rfl) rfl rfl rfl rfl (Nat.le_trans (Nat.le_of_ble_eq_true rfl) hd) (Nat.le_of_ble_eq_true rfl) (Nat.le_of_ble_eq_true rfl) (Nat.le_of_ble_eq_true rfl) (fun x hx => absurd hx List.not_mem_nil) (q_nmL0 _) (q_nmS0 _) rfl (pos' := 3) (st' := []) (lI' := []) (lE' := []) rfl rfl rfl rfl ?_
    refine q_blk 3 [] (c' := q_kc (t, r, m, z, N, ext, rx, L) I E 6 [some (.ref 400), some (.int x1), none] [.int x1, .ref 457] [] []) ok_X12_heldBale rfl q_cn ?_
    obtain ⟨r5, hr5, hf⟩ := q_bd hf
    refine q_kV (M2 := m_X2_held) (As := [.int x1]) (b := 457) (v2 := some (.int r5)) ok_X12_heldBale ok_X2_held cv_X2_held (ct_X2_held_457 (d := 1) (Nat.le_refl _) hr5) rfl rfl (Or.inl rfl) rfl rfl rfl rfl (Nat.le_trans (Nat.le_of_ble_eq_true rfl) hd) (Nat.le_of_ble_eq_true rfl) (Nat.le_of_ble_eq_true rfl) (Nat.le_of_ble_eq_true rfl) (fun x hx => absurd hx List.not_mem_nil) (q_nmL0 _) (q_nmS0 _) rfl (pos' := 7) (st' := [.int r5]) (lI' := []) (lE' := []) rfl rfl rfl rfl ?_
    refine q_blf 3 [] (a := q_kc (t, r, m, z, N, ext, rx, L) I E 16 [some (.ref 400), some (.int x1), some (.int r5)] [] [] []) (b := q_kc (t, r, m, z, N, ext, rx, L) I E 11 [some (.ref 400), some (.int x1), some (.int r5)] [] [] []) (P := ¬ r5 = (-1 : Int32)) ok_X12_heldBale rfl q_cn (fun h6 => ?_) (fun h6 => ?_)
    · have hf := q_ip h6 hf
      refine q_blk 1 [] (c' := q_kc (t, r, m, z, N, ext, rx, L) I E 17 [some (.ref 400), some (.int x1), some (.int r5)] [.int r5] [] []) ok_X12_heldBale rfl q_cn ?_
      cases hf
      exact q_kri ok_X12_heldBale rfl rfl rfl (Nat.le_of_ble_eq_true rfl) (Nat.le_of_ble_eq_true rfl) ⟨rfl, q_hpe (q_pdw [] rfl rfl) (q_pdw [] rfl rfl)⟩
    · have hf := q_in h6 hf
      cases hf
      exact q_o_throwS ok_X12_heldBale rfl rfl rfl rfl rfl rfl q_inISE msg_3 thr_0 q_fitISE q_fits (Nat.le_trans (Nat.le_of_ble_eq_true rfl) hd) (Nat.le_of_ble_eq_true rfl) (Nat.le_of_ble_eq_true rfl) (Nat.le_of_ble_eq_true rfl) ⟨rfl, q_hpe (q_pdw [] rfl rfl) (q_pdw [] rfl rfl)⟩
  | inr e3 =>
    have hf := q_sm1 hv4 hf
    cases hf
    refine q_kVx (M2 := m_X12_checkHook) (As := [.int x1]) (b := 400) ok_X12_heldBale ok_X12_checkHook cv_X12_checkHook (ct_X12_checkHook_400 (d := 6) (Nat.le_refl _) hr1) (q_oVr hv4) rfl (Or.inl rfl) rfl rfl rfl rfl (Nat.le_trans (Nat.le_of_ble_eq_true rfl) hd) (Nat.le_of_ble_eq_true rfl) (Nat.le_of_ble_eq_true rfl) (Nat.le_of_ble_eq_true rfl) (fun x hx => absurd hx List.not_mem_nil) (q_nmL0 _) (q_nmS0 _) rfl (lI' := []) (lE' := []) rfl rfl ⟨rfl, q_hpe (q_pdw [] rfl rfl) (q_pdw [] rfl rfl)⟩
set_option maxHeartbeats 4000000 in
theorem ct_X1_place_458 {g : q_G} {t : Nat} {r : Nat} {m : Nat} {z : Nat} {N : Nat} {ext : Nat → q_Sh} {rx : Nat → Nat → Option Nat} {L : Nat → Nat → Int64} {d : Nat} (hd : 1 ≤ d)  {I : Nat → Nat → Int32} {E : Nat → Nat → Option Nat} {x1 : Int32} {r0 : Int32} (hf : f_X1_place (I 460) x1 = some r0) : q_Ct g m_X1_place d 0 0 [] [.ref 458, .int x1] (q_hp (t, r, m, z, N, ext, rx, L) I E) (fun o h' => o = .inl (some (.int r0)) ∧ h' = q_hp (t, r, m, z, N, ext, rx, L) (q_ws I []) (q_ws E [])) := by
  rw [f_X1_place] at hf
  refine q_Ct_of ok_X1_place (Nat.le_of_ble_eq_true rfl) ?_ _ rfl rfl
  change q_J g m_X1_place d 0 0 _ [] _ 0 0 (q_kc (t, r, m, z, N, ext, rx, L) I E 0 [some (.ref 458), some (.int x1)] [] [] [])
  refine q_blf 1 [] (a := q_kc (t, r, m, z, N, ext, rx, L) I E 10 [some (.ref 458), some (.int x1)] [] [] []) (b := q_kc (t, r, m, z, N, ext, rx, L) I E 2 [some (.ref 458), some (.int x1)] [] [] []) (P := x1 < 0) ok_X1_place rfl q_cn (fun h1 => ?_) (fun h1 => ?_)
  · have hf := q_ip h1 hf
    refine q_blk 1 [] (c' := q_kc (t, r, m, z, N, ext, rx, L) I E 11 [some (.ref 458), some (.int x1)] [.int (0 : Int32)] [] []) ok_X1_place rfl q_cn ?_
    cases hf
    exact q_kri ok_X1_place rfl rfl rfl (Nat.le_of_ble_eq_true rfl) (Nat.le_of_ble_eq_true rfl) ⟨rfl, q_hpe (q_pdw [] rfl rfl) (q_pdw [] rfl rfl)⟩
  · have hf := q_in h1 hf
    refine q_blf 2 [] (a := q_kc (t, r, m, z, N, ext, rx, L) I E 10 [some (.ref 458), some (.int x1)] [] [] []) (b := q_kc (t, r, m, z, N, ext, rx, L) I E 5 [some (.ref 458), some (.int x1)] [] [] []) (P := (128 : Int32) ≤ x1) ok_X1_place rfl q_cn (fun h2 => ?_) (fun h2 => ?_)
    · have hf := q_ip h2 hf
      refine q_blk 1 [] (c' := q_kc (t, r, m, z, N, ext, rx, L) I E 11 [some (.ref 458), some (.int x1)] [.int (0 : Int32)] [] []) ok_X1_place rfl q_cn ?_
      cases hf
      exact q_kri ok_X1_place rfl rfl rfl (Nat.le_of_ble_eq_true rfl) (Nat.le_of_ble_eq_true rfl) ⟨rfl, q_hpe (q_pdw [] rfl rfl) (q_pdw [] rfl rfl)⟩
    · have hf := q_in h2 hf
      obtain ⟨j3, hj3, hf⟩ := q_bd hf
      refine q_blk 5 [j3] (c' := q_kc (t, r, m, z, N, ext, rx, L) I E 11 [some (.ref 458), some (.int x1)] [.int ((I 460) j3)] [] []) ok_X1_place rfl (q_cc hj3 q_cn) ?_
      cases hf
      exact q_kri ok_X1_place rfl rfl rfl (Nat.le_of_ble_eq_true rfl) (Nat.le_of_ble_eq_true rfl) ⟨rfl, q_hpe (q_pdw [] rfl rfl) (q_pdw [] rfl rfl)⟩
set_option maxHeartbeats 4000000 in
theorem ct_X12_placeOf_400 {g : q_G} {t : Nat} {r : Nat} {m : Nat} {z : Nat} {N : Nat} {ext : Nat → q_Sh} {rx : Nat → Nat → Option Nat} {L : Nat → Nat → Int64} {d : Nat} (hd : 8 ≤ d)  {I : Nat → Nat → Int32} {E : Nat → Nat → Option Nat} {x1 : Int32} {r0 : (Int32 ⊕ String)} (hf : f_X12_placeOf (I 402) (I 460) (I 470) x1 = some r0) : q_Ct g m_X12_placeOf d 2 12 [] [.ref 400, .int x1] (q_hp (t, r, m, z, N, ext, rx, L) I E) (fun o h' => o = q_oI r0 ∧ h' = q_hp (t, r, m, z, N, ext, rx, L) (q_ws I []) (q_ws E [])) := by
  rw [f_X12_placeOf] at hf
  refine q_Ct_of ok_X12_placeOf (Nat.le_of_ble_eq_true rfl) ?_ _ rfl rfl
  change q_J g m_X12_placeOf d 2 12 _ [] _ 0 0 (q_kc (t, r, m, z, N, ext, rx, L) I E 0 [some (.ref 400), some (.int x1)] [] [] [])
  refine q_blk 5 [] (c' := q_kc (t, r, m, z, N, ext, rx, L) I E 5 [some (.ref 400), some (.int x1)] [.int x1, .ref 400, .ref 458] [] []) ok_X12_placeOf rfl q_cn ?_
  obtain ⟨r1, hr1, hf⟩ := q_bd hf
  cases hv4 : r1 with
  | inl v2 =>
    have hf := q_sm0 hv4 hf
    refine q_kV (M2 := m_X12_heldBale) (As := [.int x1]) (b := 400) (v2 := some (.int v2)) ok_X12_placeOf ok_X12_heldBale cv_X12_heldBale (ct_X12_heldBale_400 (d := 7) (Nat.le_refl _) hr1) (q_oIl hv4) rfl (Or.inl rfl) rfl rfl rfl rfl (Nat.le_trans (Nat.le_of_ble_eq_true rfl) hd) (Nat.le_of_ble_eq_true rfl) (Nat.le_of_ble_eq_true rfl) (Nat.le_of_ble_eq_true rfl) (fun x hx => absurd hx List.not_mem_nil) (q_nmL0 _) (q_nmS0 _) rfl (pos' := 6) (st' := [.int v2, .ref 458]) (lI' := []) (lE' := []) rfl rfl rfl rfl ?_
    obtain ⟨r5, hr5, hf⟩ := q_bd hf
    refine q_kV (M2 := m_X1_place) (As := [.int v2]) (b := 458) (v2 := some (.int r5)) ok_X12_placeOf ok_X1_place cv_X1_place (ct_X1_place_458 (d := 1) (Nat.le_refl _) hr5) rfl rfl (Or.inl rfl) rfl rfl rfl rfl (Nat.le_trans (Nat.le_of_ble_eq_true rfl) hd) (Nat.le_of_ble_eq_true rfl) (Nat.le_of_ble_eq_true rfl) (Nat.le_of_ble_eq_true rfl) (fun x hx => absurd hx List.not_mem_nil) (q_nmL0 _) (q_nmS0 _) rfl (pos' := 7) (st' := [.int r5]) (lI' := []) (lE' := []) rfl rfl rfl rfl ?_
    cases hf
    exact q_kri ok_X12_placeOf rfl rfl rfl (Nat.le_of_ble_eq_true rfl) (Nat.le_of_ble_eq_true rfl) ⟨rfl, q_hpe (q_pdw [] rfl rfl) (q_pdw [] rfl rfl)⟩
  | inr e3 =>
    have hf := q_sm1 hv4 hf
    cases hf
    refine q_kVx (M2 := m_X12_heldBale) (As := [.int x1]) (b := 400) ok_X12_placeOf ok_X12_heldBale cv_X12_heldBale (ct_X12_heldBale_400 (d := 7) (Nat.le_refl _) hr1) (q_oIr hv4) rfl (Or.inl rfl) rfl rfl rfl rfl (Nat.le_trans (Nat.le_of_ble_eq_true rfl) hd) (Nat.le_of_ble_eq_true rfl) (Nat.le_of_ble_eq_true rfl) (Nat.le_of_ble_eq_true rfl) (fun x hx => absurd hx List.not_mem_nil) (q_nmL0 _) (q_nmS0 _) rfl (lI' := []) (lE' := []) rfl rfl ⟨rfl, q_hpe (q_pdw [] rfl rfl) (q_pdw [] rfl rfl)⟩
set_option maxHeartbeats 4000000 in
theorem ct_X1_size_458 {g : q_G} {t : Nat} {r : Nat} {m : Nat} {z : Nat} {N : Nat} {ext : Nat → q_Sh} {rx : Nat → Nat → Option Nat} {L : Nat → Nat → Int64} {d : Nat} (hd : 1 ≤ d)  {I : Nat → Nat → Int32} {E : Nat → Nat → Option Nat} {x1 : Int32} {r0 : Int32} (hf : f_X1_size (I 461) x1 = some r0) : q_Ct g m_X1_size d 0 0 [] [.ref 458, .int x1] (q_hp (t, r, m, z, N, ext, rx, L) I E) (fun o h' => o = .inl (some (.int r0)) ∧ h' = q_hp (t, r, m, z, N, ext, rx, L) (q_ws I []) (q_ws E [])) := by
  rw [f_X1_size] at hf
  refine q_Ct_of ok_X1_size (Nat.le_of_ble_eq_true rfl) ?_ _ rfl rfl
  change q_J g m_X1_size d 0 0 _ [] _ 0 0 (q_kc (t, r, m, z, N, ext, rx, L) I E 0 [some (.ref 458), some (.int x1)] [] [] [])
  refine q_blf 1 [] (a := q_kc (t, r, m, z, N, ext, rx, L) I E 10 [some (.ref 458), some (.int x1)] [] [] []) (b := q_kc (t, r, m, z, N, ext, rx, L) I E 2 [some (.ref 458), some (.int x1)] [] [] []) (P := x1 < 0) ok_X1_size rfl q_cn (fun h1 => ?_) (fun h1 => ?_)
  · have hf := q_ip h1 hf
    refine q_blk 1 [] (c' := q_kc (t, r, m, z, N, ext, rx, L) I E 11 [some (.ref 458), some (.int x1)] [.int (0 : Int32)] [] []) ok_X1_size rfl q_cn ?_
    cases hf
    exact q_kri ok_X1_size rfl rfl rfl (Nat.le_of_ble_eq_true rfl) (Nat.le_of_ble_eq_true rfl) ⟨rfl, q_hpe (q_pdw [] rfl rfl) (q_pdw [] rfl rfl)⟩
  · have hf := q_in h1 hf
    refine q_blf 2 [] (a := q_kc (t, r, m, z, N, ext, rx, L) I E 10 [some (.ref 458), some (.int x1)] [] [] []) (b := q_kc (t, r, m, z, N, ext, rx, L) I E 5 [some (.ref 458), some (.int x1)] [] [] []) (P := (128 : Int32) ≤ x1) ok_X1_size rfl q_cn (fun h2 => ?_) (fun h2 => ?_)
    · have hf := q_ip h2 hf
      refine q_blk 1 [] (c' := q_kc (t, r, m, z, N, ext, rx, L) I E 11 [some (.ref 458), some (.int x1)] [.int (0 : Int32)] [] []) ok_X1_size rfl q_cn ?_
      cases hf
      exact q_kri ok_X1_size rfl rfl rfl (Nat.le_of_ble_eq_true rfl) (Nat.le_of_ble_eq_true rfl) ⟨rfl, q_hpe (q_pdw [] rfl rfl) (q_pdw [] rfl rfl)⟩
    · have hf := q_in h2 hf
      obtain ⟨j3, hj3, hf⟩ := q_bd hf
      refine q_blk 5 [j3] (c' := q_kc (t, r, m, z, N, ext, rx, L) I E 11 [some (.ref 458), some (.int x1)] [.int ((I 461) j3)] [] []) ok_X1_size rfl (q_cc hj3 q_cn) ?_
      cases hf
      exact q_kri ok_X1_size rfl rfl rfl (Nat.le_of_ble_eq_true rfl) (Nat.le_of_ble_eq_true rfl) ⟨rfl, q_hpe (q_pdw [] rfl rfl) (q_pdw [] rfl rfl)⟩
set_option maxHeartbeats 4000000 in
theorem ct_X12_sizeOf_400 {g : q_G} {t : Nat} {r : Nat} {m : Nat} {z : Nat} {N : Nat} {ext : Nat → q_Sh} {rx : Nat → Nat → Option Nat} {L : Nat → Nat → Int64} {d : Nat} (hd : 8 ≤ d)  {I : Nat → Nat → Int32} {E : Nat → Nat → Option Nat} {x1 : Int32} {r0 : (Int32 ⊕ String)} (hf : f_X12_sizeOf (I 402) (I 461) (I 470) x1 = some r0) : q_Ct g m_X12_sizeOf d 2 12 [] [.ref 400, .int x1] (q_hp (t, r, m, z, N, ext, rx, L) I E) (fun o h' => o = q_oI r0 ∧ h' = q_hp (t, r, m, z, N, ext, rx, L) (q_ws I []) (q_ws E [])) := by
  rw [f_X12_sizeOf] at hf
  refine q_Ct_of ok_X12_sizeOf (Nat.le_of_ble_eq_true rfl) ?_ _ rfl rfl
  change q_J g m_X12_sizeOf d 2 12 _ [] _ 0 0 (q_kc (t, r, m, z, N, ext, rx, L) I E 0 [some (.ref 400), some (.int x1)] [] [] [])
  refine q_blk 5 [] (c' := q_kc (t, r, m, z, N, ext, rx, L) I E 5 [some (.ref 400), some (.int x1)] [.int x1, .ref 400, .ref 458] [] []) ok_X12_sizeOf rfl q_cn ?_
  obtain ⟨r1, hr1, hf⟩ := q_bd hf
  cases hv4 : r1 with
  | inl v2 =>
    have hf := q_sm0 hv4 hf
    refine q_kV (M2 := m_X12_heldBale) (As := [.int x1]) (b := 400) (v2 := some (.int v2)) ok_X12_sizeOf ok_X12_heldBale cv_X12_heldBale (ct_X12_heldBale_400 (d := 7) (Nat.le_refl _) hr1) (q_oIl hv4) rfl (Or.inl rfl) rfl rfl rfl rfl (Nat.le_trans (Nat.le_of_ble_eq_true rfl) hd) (Nat.le_of_ble_eq_true rfl) (Nat.le_of_ble_eq_true rfl) (Nat.le_of_ble_eq_true rfl) (fun x hx => absurd hx List.not_mem_nil) (q_nmL0 _) (q_nmS0 _) rfl (pos' := 6) (st' := [.int v2, .ref 458]) (lI' := []) (lE' := []) rfl rfl rfl rfl ?_
    obtain ⟨r5, hr5, hf⟩ := q_bd hf
    refine q_kV (M2 := m_X1_size) (As := [.int v2]) (b := 458) (v2 := some (.int r5)) ok_X12_sizeOf ok_X1_size cv_X1_size (ct_X1_size_458 (d := 1) (Nat.le_refl _) hr5) rfl rfl (Or.inl rfl) rfl rfl rfl rfl (Nat.le_trans (Nat.le_of_ble_eq_true rfl) hd) (Nat.le_of_ble_eq_true rfl) (Nat.le_of_ble_eq_true rfl) (Nat.le_of_ble_eq_true rfl) (fun x hx => absurd hx List.not_mem_nil) (q_nmL0 _) (q_nmS0 _) rfl (pos' := 7) (st' := [.int r5]) (lI' := []) (lE' := []) rfl rfl rfl rfl ?_
    cases hf
    exact q_kri ok_X12_sizeOf rfl rfl rfl (Nat.le_of_ble_eq_true rfl) (Nat.le_of_ble_eq_true rfl) ⟨rfl, q_hpe (q_pdw [] rfl rfl) (q_pdw [] rfl rfl)⟩
  | inr e3 =>
    have hf := q_sm1 hv4 hf
    cases hf
    refine q_kVx (M2 := m_X12_heldBale) (As := [.int x1]) (b := 400) ok_X12_sizeOf ok_X12_heldBale cv_X12_heldBale (ct_X12_heldBale_400 (d := 7) (Nat.le_refl _) hr1) (q_oIr hv4) rfl (Or.inl rfl) rfl rfl rfl rfl (Nat.le_trans (Nat.le_of_ble_eq_true rfl) hd) (Nat.le_of_ble_eq_true rfl) (Nat.le_of_ble_eq_true rfl) (Nat.le_of_ble_eq_true rfl) (fun x hx => absurd hx List.not_mem_nil) (q_nmL0 _) (q_nmS0 _) rfl (lI' := []) (lE' := []) rfl rfl ⟨rfl, q_hpe (q_pdw [] rfl rfl) (q_pdw [] rfl rfl)⟩
set_option maxHeartbeats 4000000 in
theorem ct_X12_ropesOf_400 {g : q_G} {t : Nat} {r : Nat} {m : Nat} {z : Nat} {N : Nat} {ext : Nat → q_Sh} {rx : Nat → Nat → Option Nat} {L : Nat → Nat → Int64} {d : Nat} (hd : 8 ≤ d)  {I : Nat → Nat → Int32} {E : Nat → Nat → Option Nat} {x1 : Int32} {r0 : (Int32 ⊕ String)} (hf : f_X12_ropesOf (I 402) (I 463) (I 470) x1 = some r0) : q_Ct g m_X12_ropesOf d 2 12 [] [.ref 400, .int x1] (q_hp (t, r, m, z, N, ext, rx, L) I E) (fun o h' => o = q_oI r0 ∧ h' = q_hp (t, r, m, z, N, ext, rx, L) (q_ws I []) (q_ws E [])) := by
  rw [f_X12_ropesOf] at hf
  refine q_Ct_of ok_X12_ropesOf (Nat.le_of_ble_eq_true rfl) ?_ _ rfl rfl
  change q_J g m_X12_ropesOf d 2 12 _ [] _ 0 0 (q_kc (t, r, m, z, N, ext, rx, L) I E 0 [some (.ref 400), some (.int x1)] [] [] [])
  refine q_blk 5 [] (c' := q_kc (t, r, m, z, N, ext, rx, L) I E 5 [some (.ref 400), some (.int x1)] [.int x1, .ref 400, .ref 458] [] []) ok_X12_ropesOf rfl q_cn ?_
  obtain ⟨r1, hr1, hf⟩ := q_bd hf
  cases hv4 : r1 with
  | inl v2 =>
    have hf := q_sm0 hv4 hf
    refine q_kV (M2 := m_X12_heldBale) (As := [.int x1]) (b := 400) (v2 := some (.int v2)) ok_X12_ropesOf ok_X12_heldBale cv_X12_heldBale (ct_X12_heldBale_400 (d := 7) (Nat.le_refl _) hr1) (q_oIl hv4) rfl (Or.inl rfl) rfl rfl rfl rfl (Nat.le_trans (Nat.le_of_ble_eq_true rfl) hd) (Nat.le_of_ble_eq_true rfl) (Nat.le_of_ble_eq_true rfl) (Nat.le_of_ble_eq_true rfl) (fun x hx => absurd hx List.not_mem_nil) (q_nmL0 _) (q_nmS0 _) rfl (pos' := 6) (st' := [.int v2, .ref 458]) (lI' := []) (lE' := []) rfl rfl rfl rfl ?_
    obtain ⟨r5, hr5, hf⟩ := q_bd hf
    refine q_kV (M2 := m_X1_ropes) (As := [.int v2]) (b := 458) (v2 := some (.int r5)) ok_X12_ropesOf ok_X1_ropes cv_X1_ropes (ct_X1_ropes_458 (d := 1) (Nat.le_refl _) hr5) rfl rfl (Or.inl rfl) rfl rfl rfl rfl (Nat.le_trans (Nat.le_of_ble_eq_true rfl) hd) (Nat.le_of_ble_eq_true rfl) (Nat.le_of_ble_eq_true rfl) (Nat.le_of_ble_eq_true rfl) (fun x hx => absurd hx List.not_mem_nil) (q_nmL0 _) (q_nmS0 _) rfl (pos' := 7) (st' := [.int r5]) (lI' := []) (lE' := []) rfl rfl rfl rfl ?_
    cases hf
    exact q_kri ok_X12_ropesOf rfl rfl rfl (Nat.le_of_ble_eq_true rfl) (Nat.le_of_ble_eq_true rfl) ⟨rfl, q_hpe (q_pdw [] rfl rfl) (q_pdw [] rfl rfl)⟩
  | inr e3 =>
    have hf := q_sm1 hv4 hf
    cases hf
    refine q_kVx (M2 := m_X12_heldBale) (As := [.int x1]) (b := 400) ok_X12_ropesOf ok_X12_heldBale cv_X12_heldBale (ct_X12_heldBale_400 (d := 7) (Nat.le_refl _) hr1) (q_oIr hv4) rfl (Or.inl rfl) rfl rfl rfl rfl (Nat.le_trans (Nat.le_of_ble_eq_true rfl) hd) (Nat.le_of_ble_eq_true rfl) (Nat.le_of_ble_eq_true rfl) (Nat.le_of_ble_eq_true rfl) (fun x hx => absurd hx List.not_mem_nil) (q_nmL0 _) (q_nmS0 _) rfl (lI' := []) (lE' := []) rfl rfl ⟨rfl, q_hpe (q_pdw [] rfl rfl) (q_pdw [] rfl rfl)⟩
set_option maxHeartbeats 4000000 in
theorem ct_X1_age_458 {g : q_G} {t : Nat} {r : Nat} {m : Nat} {z : Nat} {N : Nat} {ext : Nat → q_Sh} {rx : Nat → Nat → Option Nat} {L : Nat → Nat → Int64} {d : Nat} (hd : 1 ≤ d)  {I : Nat → Nat → Int32} {E : Nat → Nat → Option Nat} {x1 : Int32} {r0 : Int32} (hf : f_X1_age (I 462) x1 = some r0) : q_Ct g m_X1_age d 0 0 [] [.ref 458, .int x1] (q_hp (t, r, m, z, N, ext, rx, L) I E) (fun o h' => o = .inl (some (.int r0)) ∧ h' = q_hp (t, r, m, z, N, ext, rx, L) (q_ws I []) (q_ws E [])) := by
  rw [f_X1_age] at hf
  refine q_Ct_of ok_X1_age (Nat.le_of_ble_eq_true rfl) ?_ _ rfl rfl
  change q_J g m_X1_age d 0 0 _ [] _ 0 0 (q_kc (t, r, m, z, N, ext, rx, L) I E 0 [some (.ref 458), some (.int x1)] [] [] [])
  refine q_blf 1 [] (a := q_kc (t, r, m, z, N, ext, rx, L) I E 10 [some (.ref 458), some (.int x1)] [] [] []) (b := q_kc (t, r, m, z, N, ext, rx, L) I E 2 [some (.ref 458), some (.int x1)] [] [] []) (P := x1 < 0) ok_X1_age rfl q_cn (fun h1 => ?_) (fun h1 => ?_)
  · have hf := q_ip h1 hf
    refine q_blk 1 [] (c' := q_kc (t, r, m, z, N, ext, rx, L) I E 11 [some (.ref 458), some (.int x1)] [.int (0 : Int32)] [] []) ok_X1_age rfl q_cn ?_
    cases hf
    exact q_kri ok_X1_age rfl rfl rfl (Nat.le_of_ble_eq_true rfl) (Nat.le_of_ble_eq_true rfl) ⟨rfl, q_hpe (q_pdw [] rfl rfl) (q_pdw [] rfl rfl)⟩
  · have hf := q_in h1 hf
    refine q_blf 2 [] (a := q_kc (t, r, m, z, N, ext, rx, L) I E 10 [some (.ref 458), some (.int x1)] [] [] []) (b := q_kc (t, r, m, z, N, ext, rx, L) I E 5 [some (.ref 458), some (.int x1)] [] [] []) (P := (128 : Int32) ≤ x1) ok_X1_age rfl q_cn (fun h2 => ?_) (fun h2 => ?_)
    · have hf := q_ip h2 hf
      refine q_blk 1 [] (c' := q_kc (t, r, m, z, N, ext, rx, L) I E 11 [some (.ref 458), some (.int x1)] [.int (0 : Int32)] [] []) ok_X1_age rfl q_cn ?_
      cases hf
      exact q_kri ok_X1_age rfl rfl rfl (Nat.le_of_ble_eq_true rfl) (Nat.le_of_ble_eq_true rfl) ⟨rfl, q_hpe (q_pdw [] rfl rfl) (q_pdw [] rfl rfl)⟩
    · have hf := q_in h2 hf
      obtain ⟨j3, hj3, hf⟩ := q_bd hf
      refine q_blk 5 [j3] (c' := q_kc (t, r, m, z, N, ext, rx, L) I E 11 [some (.ref 458), some (.int x1)] [.int ((I 462) j3)] [] []) ok_X1_age rfl (q_cc hj3 q_cn) ?_
      cases hf
      exact q_kri ok_X1_age rfl rfl rfl (Nat.le_of_ble_eq_true rfl) (Nat.le_of_ble_eq_true rfl) ⟨rfl, q_hpe (q_pdw [] rfl rfl) (q_pdw [] rfl rfl)⟩
set_option maxHeartbeats 4000000 in
theorem ct_X12_ageOf_400 {g : q_G} {t : Nat} {r : Nat} {m : Nat} {z : Nat} {N : Nat} {ext : Nat → q_Sh} {rx : Nat → Nat → Option Nat} {L : Nat → Nat → Int64} {d : Nat} (hd : 8 ≤ d)  {I : Nat → Nat → Int32} {E : Nat → Nat → Option Nat} {x1 : Int32} {r0 : (Int32 ⊕ String)} (hf : f_X12_ageOf (I 402) (I 462) (I 470) x1 = some r0) : q_Ct g m_X12_ageOf d 2 12 [] [.ref 400, .int x1] (q_hp (t, r, m, z, N, ext, rx, L) I E) (fun o h' => o = q_oI r0 ∧ h' = q_hp (t, r, m, z, N, ext, rx, L) (q_ws I []) (q_ws E [])) := by
  rw [f_X12_ageOf] at hf
  refine q_Ct_of ok_X12_ageOf (Nat.le_of_ble_eq_true rfl) ?_ _ rfl rfl
  change q_J g m_X12_ageOf d 2 12 _ [] _ 0 0 (q_kc (t, r, m, z, N, ext, rx, L) I E 0 [some (.ref 400), some (.int x1)] [] [] [])
  refine q_blk 5 [] (c' := q_kc (t, r, m, z, N, ext, rx, L) I E 5 [some (.ref 400), some (.int x1)] [.int x1, .ref 400, .ref 458] [] []) ok_X12_ageOf rfl q_cn ?_
  obtain ⟨r1, hr1, hf⟩ := q_bd hf
  cases hv4 : r1 with
  | inl v2 =>
    have hf := q_sm0 hv4 hf
    refine q_kV (M2 := m_X12_heldBale) (As := [.int x1]) (b := 400) (v2 := some (.int v2)) ok_X12_ageOf ok_X12_heldBale cv_X12_heldBale (ct_X12_heldBale_400 (d := 7) (Nat.le_refl _) hr1) (q_oIl hv4) rfl (Or.inl rfl) rfl rfl rfl rfl (Nat.le_trans (Nat.le_of_ble_eq_true rfl) hd) (Nat.le_of_ble_eq_true rfl) (Nat.le_of_ble_eq_true rfl) (Nat.le_of_ble_eq_true rfl) (fun x hx => absurd hx List.not_mem_nil) (q_nmL0 _) (q_nmS0 _) rfl (pos' := 6) (st' := [.int v2, .ref 458]) (lI' := []) (lE' := []) rfl rfl rfl rfl ?_
    obtain ⟨r5, hr5, hf⟩ := q_bd hf
    refine q_kV (M2 := m_X1_age) (As := [.int v2]) (b := 458) (v2 := some (.int r5)) ok_X12_ageOf ok_X1_age cv_X1_age (ct_X1_age_458 (d := 1) (Nat.le_refl _) hr5) rfl rfl (Or.inl rfl) rfl rfl rfl rfl (Nat.le_trans (Nat.le_of_ble_eq_true rfl) hd) (Nat.le_of_ble_eq_true rfl) (Nat.le_of_ble_eq_true rfl) (Nat.le_of_ble_eq_true rfl) (fun x hx => absurd hx List.not_mem_nil) (q_nmL0 _) (q_nmS0 _) rfl (pos' := 7) (st' := [.int r5]) (lI' := []) (lE' := []) rfl rfl rfl rfl ?_
    cases hf
    exact q_kri ok_X12_ageOf rfl rfl rfl (Nat.le_of_ble_eq_true rfl) (Nat.le_of_ble_eq_true rfl) ⟨rfl, q_hpe (q_pdw [] rfl rfl) (q_pdw [] rfl rfl)⟩
  | inr e3 =>
    have hf := q_sm1 hv4 hf
    cases hf
    refine q_kVx (M2 := m_X12_heldBale) (As := [.int x1]) (b := 400) ok_X12_ageOf ok_X12_heldBale cv_X12_heldBale (ct_X12_heldBale_400 (d := 7) (Nat.le_refl _) hr1) (q_oIr hv4) rfl (Or.inl rfl) rfl rfl rfl rfl (Nat.le_trans (Nat.le_of_ble_eq_true rfl) hd) (Nat.le_of_ble_eq_true rfl) (Nat.le_of_ble_eq_true rfl) (Nat.le_of_ble_eq_true rfl) (fun x hx => absurd hx List.not_mem_nil) (q_nmL0 _) (q_nmS0 _) rfl (lI' := []) (lE' := []) rfl rfl ⟨rfl, q_hpe (q_pdw [] rfl rfl) (q_pdw [] rfl rfl)⟩
set_option maxHeartbeats 4000000 in
theorem ct_X1_liesInLoft_458 {g : q_G} {t : Nat} {r : Nat} {m : Nat} {z : Nat} {N : Nat} {ext : Nat → q_Sh} {rx : Nat → Nat → Option Nat} {L : Nat → Nat → Int64} {d : Nat} (hd : 1 ≤ d)  {I : Nat → Nat → Int32} {E : Nat → Nat → Option Nat} {x1 : Int32} {r0 : Bool} (hf : f_X1_liesInLoft (I 459) x1 = some r0) : q_Ct g m_X1_liesInLoft d 0 0 [] [.ref 458, .int x1] (q_hp (t, r, m, z, N, ext, rx, L) I E) (fun o h' => o = .inl (some (.int (q_bz r0))) ∧ h' = q_hp (t, r, m, z, N, ext, rx, L) (q_ws I []) (q_ws E [])) := by
  rw [f_X1_liesInLoft] at hf
  refine q_Ct_of ok_X1_liesInLoft (Nat.le_of_ble_eq_true rfl) ?_ _ rfl rfl
  change q_J g m_X1_liesInLoft d 0 0 _ [] _ 0 0 (q_kc (t, r, m, z, N, ext, rx, L) I E 0 [some (.ref 458), some (.int x1)] [] [] [])
  refine q_blf 1 [] (a := q_kc (t, r, m, z, N, ext, rx, L) I E 13 [some (.ref 458), some (.int x1)] [] [] []) (b := q_kc (t, r, m, z, N, ext, rx, L) I E 2 [some (.ref 458), some (.int x1)] [] [] []) (P := x1 < 0) ok_X1_liesInLoft rfl q_cn (fun h1 => ?_) (fun h1 => ?_)
  · have hf := q_ip h1 hf
    refine q_blk 1 [] (c' := q_kc (t, r, m, z, N, ext, rx, L) I E 14 [some (.ref 458), some (.int x1)] [.int (0 : Int32)] [] []) ok_X1_liesInLoft rfl q_cn ?_
    cases hf
    exact q_kri ok_X1_liesInLoft rfl rfl rfl (Nat.le_of_ble_eq_true rfl) (Nat.le_of_ble_eq_true rfl) ⟨rfl, q_hpe (q_pdw [] rfl rfl) (q_pdw [] rfl rfl)⟩
  · have hf := q_in h1 hf
    refine q_blf 2 [] (a := q_kc (t, r, m, z, N, ext, rx, L) I E 13 [some (.ref 458), some (.int x1)] [] [] []) (b := q_kc (t, r, m, z, N, ext, rx, L) I E 5 [some (.ref 458), some (.int x1)] [] [] []) (P := (128 : Int32) ≤ x1) ok_X1_liesInLoft rfl q_cn (fun h2 => ?_) (fun h2 => ?_)
    · have hf := q_ip h2 hf
      refine q_blk 1 [] (c' := q_kc (t, r, m, z, N, ext, rx, L) I E 14 [some (.ref 458), some (.int x1)] [.int (0 : Int32)] [] []) ok_X1_liesInLoft rfl q_cn ?_
      cases hf
      exact q_kri ok_X1_liesInLoft rfl rfl rfl (Nat.le_of_ble_eq_true rfl) (Nat.le_of_ble_eq_true rfl) ⟨rfl, q_hpe (q_pdw [] rfl rfl) (q_pdw [] rfl rfl)⟩
    · have hf := q_in h2 hf
      obtain ⟨j3, hj3, hf⟩ := q_bd hf
      refine q_blf 5 [j3] (a := q_kc (t, r, m, z, N, ext, rx, L) I E 13 [some (.ref 458), some (.int x1)] [] [] []) (b := q_kc (t, r, m, z, N, ext, rx, L) I E 11 [some (.ref 458), some (.int x1)] [] [] []) (P := ¬ ((I 459) j3) = (2 : Int32)) ok_X1_liesInLoft rfl (q_cc hj3 q_cn) (fun h4 => ?_) (fun h4 => ?_)
      · have hf := q_ip h4 hf
        refine q_blk 1 [] (c' := q_kc (t, r, m, z, N, ext, rx, L) I E 14 [some (.ref 458), some (.int x1)] [.int (0 : Int32)] [] []) ok_X1_liesInLoft rfl q_cn ?_
        cases hf
        exact q_kri ok_X1_liesInLoft rfl rfl rfl (Nat.le_of_ble_eq_true rfl) (Nat.le_of_ble_eq_true rfl) ⟨rfl, q_hpe (q_pdw [] rfl rfl) (q_pdw [] rfl rfl)⟩
      · have hf := q_in h4 hf
        refine q_blk 2 [] (c' := q_kc (t, r, m, z, N, ext, rx, L) I E 14 [some (.ref 458), some (.int x1)] [.int (1 : Int32)] [] []) ok_X1_liesInLoft rfl q_cn ?_
        cases hf
        exact q_kri ok_X1_liesInLoft rfl rfl rfl (Nat.le_of_ble_eq_true rfl) (Nat.le_of_ble_eq_true rfl) ⟨rfl, q_hpe (q_pdw [] rfl rfl) (q_pdw [] rfl rfl)⟩
