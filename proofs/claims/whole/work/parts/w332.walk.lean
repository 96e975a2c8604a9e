set_option maxHeartbeats 4000000 in
theorem lp_X14_begin_L32_512 {g : q_G} {d mc ms : Nat} {h0 : q_H} {Q : (Option Value ⊕ String) → q_H → Prop} {k n : Nat} {t : Nat} {r : Nat} {m : Nat} {z : Nat} {N : Nat} {ext : Nat → q_Sh} {rx : Nat → Nat → Option Nat} {L : Nat → Nat → Int64} (hd : 1 ≤ d) (hk : k ≤ mc) (hn : n ≤ ms)  : ∀ (fu : Nat) {I : Nat → Nat → Int32} {E : Nat → Nat → Option Nat} {v1 : Int32} {r0 : (Nat → Int32)} (hf : f_X14_begin_L32 fu (I 514) v1 = some r0) (hK0 : q_J g m_X14_begin d mc ms h0 [] Q k n (q_kc (t, r, m, z, N, ext, rx, L) I E 42 [none, none] [] [(514, r0)] [])), q_J g m_X14_begin d mc ms h0 [] Q k n (32, [some (.ref 512), some (.int v1)], [], q_hp (t, r, m, z, N, ext, rx, L) I E) := by
  intro fu
  induction fu with
  | zero =>
    intro I E v1 r0 hf hK0
    rw [f_X14_begin_L32] at hf
    cases hf
  | succ fu ih =>
    intro I E v1 r0 hf hK0
    rw [f_X14_begin_L32] at hf
    change q_J g m_X14_begin d mc ms h0 [] Q k n (q_kc (t, r, m, z, N, ext, rx, L) I E 32 [some (.ref 512), some (.int v1)] [] [] [])
    refine q_blf 2 [] (a := q_kc (t, r, m, z, N, ext, rx, L) I E 42 [some (.ref 512), some (.int v1)] [] [] []) (b := q_kc (t, r, m, z, N, ext, rx, L) I E 35 [some (.ref 512), some (.int v1)] [] [] []) (P := (136 : Int32) ≤ v1) ok_X14_begin rfl q_cn (fun h1 => ?_) (fun h1 => ?_)
    · have hf := q_ip h1 hf
      refine q_less (ls' := [none, none]) (q_sb1 (q_sb1 q_sb0)) ?_
      cases hf
      exact q_Jpad (q_pdw [514] rfl rfl) (q_pdw [] rfl rfl) hK0
    · have hf := q_in h1 hf
      obtain ⟨j2, hj2, hf⟩ := q_bd hf
      refine q_blk 7 [j2] (c' := q_kc (t, r, m, z, N, ext, rx, L) I E 32 [some (.ref 512), some (.int (v1 + 1))] [] [(514, (q_up (I 514) j2 (0 : Int32)))] []) ok_X14_begin rfl (q_cc hj2 q_cn) ?_
      exact ih (I := q_ws I [(514, (q_up (I 514) j2 (0 : Int32)))]) (E := q_ws E []) hf (q_Jmrg (q_mgw rfl rfl) (q_mgw rfl rfl) hK0)
set_option maxHeartbeats 4000000 in
theorem lp_X14_begin_L20_512 {g : q_G} {d mc ms : Nat} {h0 : q_H} {Q : (Option Value ⊕ String) → q_H → Prop} {k n : Nat} {t : Nat} {r : Nat} {m : Nat} {z : Nat} {N : Nat} {ext : Nat → q_Sh} {rx : Nat → Nat → Option Nat} {L : Nat → Nat → Int64} (hd : 1 ≤ d) (hk : k ≤ mc) (hn : n ≤ ms)  : ∀ (fu : Nat) {I : Nat → Nat → Int32} {E : Nat → Nat → Option Nat} {v1 : Int32} {r0 : (Nat → Int32)} (hf : f_X14_begin_L20 fu (I 513) v1 = some r0) (hK0 : q_J g m_X14_begin d mc ms h0 [] Q k n (q_kc (t, r, m, z, N, ext, rx, L) I E 30 [some (.ref 512), none] [] [(513, r0)] [])), q_J g m_X14_begin d mc ms h0 [] Q k n (20, [some (.ref 512), some (.int v1)], [], q_hp (t, r, m, z, N, ext, rx, L) I E) := by
  intro fu
  induction fu with
  | zero =>
    intro I E v1 r0 hf hK0
    rw [f_X14_begin_L20] at hf
    cases hf
  | succ fu ih =>
    intro I E v1 r0 hf hK0
    rw [f_X14_begin_L20] at hf
    change q_J g m_X14_begin d mc ms h0 [] Q k n (q_kc (t, r, m, z, N, ext, rx, L) I E 20 [some (.ref 512), some (.int v1)] [] [] [])
    refine q_blf 2 [] (a := q_kc (t, r, m, z, N, ext, rx, L) I E 30 [some (.ref 512), some (.int v1)] [] [] []) (b := q_kc (t, r, m, z, N, ext, rx, L) I E 23 [some (.ref 512), some (.int v1)] [] [] []) (P := (6 : Int32) ≤ v1) ok_X14_begin rfl q_cn (fun h3 => ?_) (fun h3 => ?_)
    · have hf := q_ip h3 hf
      refine q_less (ls' := [some (.ref 512), none]) (q_sb2 (q_sb1 q_sb0)) ?_
      cases hf
      exact q_Jpad (q_pdw [513] rfl rfl) (q_pdw [] rfl rfl) hK0
    · have hf := q_in h3 hf
      obtain ⟨j4, hj4, hf⟩ := q_bd hf
      refine q_blk 7 [j4] (c' := q_kc (t, r, m, z, N, ext, rx, L) I E 20 [some (.ref 512), some (.int (v1 + 1))] [] [(513, (q_up (I 513) j4 (-1 : Int32)))] []) ok_X14_begin rfl (q_cc hj4 q_cn) ?_
      exact ih (I := q_ws I [(513, (q_up (I 513) j4 (-1 : Int32)))]) (E := q_ws E []) hf (q_Jmrg (q_mgw rfl rfl) (q_mgw rfl rfl) hK0)
set_option maxHeartbeats 4000000 in
theorem ct_X14_begin_512 {g : q_G} {t : Nat} {r : Nat} {m : Nat} {z : Nat} {N : Nat} {ext : Nat → q_Sh} {rx : Nat → Nat → Option Nat} {L : Nat → Nat → Int64} {d : Nat} (hd : 1 ≤ d)  {I : Nat → Nat → Int32} {E : Nat → Nat → Option Nat} {r0 : (Nat → Int32) × (Nat → Int32) × (Nat → Int32)} (hf : f_X14_begin (I 512) (I 513) (I 514) = some r0) : q_Ct g m_X14_begin d 0 0 [] [.ref 512] (q_hp (t, r, m, z, N, ext, rx, L) I E) (fun o h' => o = .inl none ∧ h' = q_hp (t, r, m, z, N, ext, rx, L) (q_ws I [(512, r0.1), (513, r0.2.1), (514, r0.2.2)]) (q_ws E [])) := by
  rw [f_X14_begin] at hf
  refine q_Ct_of ok_X14_begin (Nat.le_of_ble_eq_true rfl) ?_ _ rfl rfl
  change q_J g m_X14_begin d 0 0 _ [] _ 0 0 (q_kc (t, r, m, z, N, ext, rx, L) I E 0 [some (.ref 512), none] [] [] [])
  refine q_blk 20 [] (c' := q_kc (t, r, m, z, N, ext, rx, L) I E 20 [some (.ref 512), some (.int (0 : Int32))] [] [(512, (q_up (q_up (q_up (q_up (q_up (q_up (I 512) 0 (0 : Int32)) 1 (0 : Int32)) 2 (0 : Int32)) 3 (0 : Int32)) 4 (0 : Int32)) 5 (0 : Int32)))] []) ok_X14_begin rfl q_cn ?_
  obtain ⟨r5, hr5, hf⟩ := q_bd hf
  refine lp_X14_begin_L20_512 (I := q_ws I [(512, (q_up (q_up (q_up (q_up (q_up (q_up (I 512) 0 (0 : Int32)) 1 (0 : Int32)) 2 (0 : Int32)) 3 (0 : Int32)) 4 (0 : Int32)) 5 (0 : Int32)))]) (E := q_ws E []) hd (Nat.le_of_ble_eq_true rfl) (Nat.le_of_ble_eq_true rfl) 4096 hr5 ?_
  refine q_Jmrg (lI' := [(512, (q_up (q_up (q_up (q_up (q_up (q_up (I 512) 0 (0 : Int32)) 1 (0 : Int32)) 2 (0 : Int32)) 3 (0 : Int32)) 4 (0 : Int32)) 5 (0 : Int32))), (513, r5)]) (lE' := []) (q_mgw rfl rfl) (q_mgw rfl rfl) ?_
  refine q_blk 2 [] (c' := q_kc (t, r, m, z, N, ext, rx, L) I E 32 [some (.ref 512), some (.int (0 : Int32))] [] [(512, (q_up (q_up (q_up (q_up (q_up (q_up (I 512) 0 (0 : Int32)) 1 (0 : Int32)) 2 (0 : Int32)) 3 (0 : Int32)) 4 (0 : Int32)) 5 (0 : Int32))), (513, r5)] []) ok_X14_begin rfl q_cn ?_
  obtain ⟨r6, hr6, hf⟩ := q_bd hf
  refine lp_X14_begin_L32_512 (I := q_ws I [(512, (q_up (q_up (q_up (q_up (q_up (q_up (I 512) 0 (0 : Int32)) 1 (0 : Int32)) 2 (0 : Int32)) 3 (0 : Int32)) 4 (0 : Int32)) 5 (0 : Int32))), (513, r5)]) (E := q_ws E []) hd (Nat.le_of_ble_eq_true rfl) (Nat.le_of_ble_eq_true rfl) 4096 hr6 ?_
  refine q_Jmrg (lI' := [(512, (q_up (q_up (q_up (q_up (q_up (q_up (I 512) 0 (0 : Int32)) 1 (0 : Int32)) 2 (0 : Int32)) 3 (0 : Int32)) 4 (0 : Int32)) 5 (0 : Int32))), (513, r5), (514, r6)]) (lE' := []) (q_mgw rfl rfl) (q_mgw rfl rfl) ?_
  cases hf
  exact q_krv ok_X14_begin rfl rfl (Nat.le_of_ble_eq_true rfl) (Nat.le_of_ble_eq_true rfl) ⟨rfl, q_hpe (q_pdw [512, 513, 514] rfl rfl) (q_pdw [] rfl rfl)⟩
set_option maxHeartbeats 4000000 in
theorem ct_X15_byteOf_492_P {g : q_G} {t : Nat} {r : Nat} {ext : Nat → q_Sh} {rx : Nat → Nat → Option Nat} {L : Nat → Nat → Int64} {d : Nat} (hd : 1 ≤ d)  {I : Nat → Nat → Int32} {E : Nat → Nat → Option Nat} {x1 : Int32} {r0 : Int32} (hf : f_X15_byteOf (I 492) (I 493) x1 = some r0) : q_Ct g m_X15_byteOf d 0 0 [] [.ref 492, .int x1] (q_hp (t, r, 0, 529, 539, (q_pE ext), (q_pR rx), L) I E) (fun o h' => o = .inl (some (.int r0)) ∧ h' = q_hp (t, r, 0, 529, 539, (q_pE ext), (q_pR rx), L) (q_ws I []) (q_ws E [])) := by
  rw [f_X15_byteOf] at hf
  refine q_Ct_of ok_X15_byteOf (Nat.le_of_ble_eq_true rfl) ?_ _ rfl rfl
  change q_J g m_X15_byteOf d 0 0 _ [] _ 0 0 (q_kc (t, r, 0, 529, 539, (q_pE ext), (q_pR rx), L) I E 0 [some (.ref 492), some (.int x1)] [] [] [])
  refine q_blf 3 [] (a := q_kc (t, r, 0, 529, 539, (q_pE ext), (q_pR rx), L) I E 9 [some (.ref 492), some (.int x1)] [] [] []) (b := q_kc (t, r, 0, 529, 539, (q_pE ext), (q_pR rx), L) I E 4 [some (.ref 492), some (.int x1)] [] [] []) (P := ((I 492) 2) ≤ x1) ok_X15_byteOf rfl q_cn (fun h1 => ?_) (fun h1 => ?_)
  · have hf := q_ip h1 hf
    refine q_blk 1 [] (c' := q_kc (t, r, 0, 529, 539, (q_pE ext), (q_pR rx), L) I E 10 [some (.ref 492), some (.int x1)] [.int (-1 : Int32)] [] []) ok_X15_byteOf rfl q_cn ?_
    cases hf
    exact q_kri ok_X15_byteOf rfl rfl rfl (Nat.le_of_ble_eq_true rfl) (Nat.le_of_ble_eq_true rfl) ⟨rfl, q_hpe (q_pdw [] rfl rfl) (q_pdw [] rfl rfl)⟩
  · have hf := q_in h1 hf
    obtain ⟨j2, hj2, hf⟩ := q_bd hf
    refine q_blk 5 [j2] (c' := q_kc (t, r, 0, 529, 539, (q_pE ext), (q_pR rx), L) I E 10 [some (.ref 492), some (.int x1)] [.int ((I 493) j2)] [] []) ok_X15_byteOf rfl (q_cc hj2 q_cn) ?_
    cases hf
    exact q_kri ok_X15_byteOf rfl rfl rfl (Nat.le_of_ble_eq_true rfl) (Nat.le_of_ble_eq_true rfl) ⟨rfl, q_hpe (q_pdw [] rfl rfl) (q_pdw [] rfl rfl)⟩
set_option maxHeartbeats 4000000 in
theorem ct_X15_isLetter_P {g : q_G} {t : Nat} {r : Nat} {ext : Nat → q_Sh} {rx : Nat → Nat → Option Nat} {L : Nat → Nat → Int64} {d : Nat} (hd : 1 ≤ d)  {I : Nat → Nat → Int32} {E : Nat → Nat → Option Nat} {x0 : Int32} {r0 : Bool} (hf : f_X15_isLetter x0 = some r0) : q_Ct g m_X15_isLetter d 0 0 [] [.int x0] (q_hp (t, r, 0, 529, 539, (q_pE ext), (q_pR rx), L) I E) (fun o h' => o = .inl (some (.int (q_bz r0))) ∧ h' = q_hp (t, r, 0, 529, 539, (q_pE ext), (q_pR rx), L) (q_ws I []) (q_ws E [])) := by
  rw [f_X15_isLetter] at hf
  refine q_Ct_of ok_X15_isLetter (Nat.le_of_ble_eq_true rfl) ?_ _ rfl rfl
  change q_J g m_X15_isLetter d 0 0 _ [] _ 0 0 (q_kc (t, r, 0, 529, 539, (q_pE ext), (q_pR rx), L) I E 0 [some (.int x0)] [] [] [])
  refine q_blf 2 [] (a := q_kc (t, r, 0, 529, 539, (q_pE ext), (q_pR rx), L) I E 8 [some (.int x0)] [] [] []) (b := q_kc (t, r, 0, 529, 539, (q_pE ext), (q_pR rx), L) I E 3 [some (.int x0)] [] [] []) (P := x0 < (97 : Int32)) ok_X15_isLetter rfl q_cn (fun h1 => ?_) (fun h1 => ?_)
  · have hf := q_ip h1 hf
    refine q_blk 1 [] (c' := q_kc (t, r, 0, 529, 539, (q_pE ext), (q_pR rx), L) I E 9 [some (.int x0)] [.int (0 : Int32)] [] []) ok_X15_isLetter rfl q_cn ?_
    cases hf
    exact q_kri ok_X15_isLetter rfl rfl rfl (Nat.le_of_ble_eq_true rfl) (Nat.le_of_ble_eq_true rfl) ⟨rfl, q_hpe (q_pdw [] rfl rfl) (q_pdw [] rfl rfl)⟩
  · have hf := q_in h1 hf
    refine q_blf 2 [] (a := q_kc (t, r, 0, 529, 539, (q_pE ext), (q_pR rx), L) I E 8 [some (.int x0)] [] [] []) (b := q_kc (t, r, 0, 529, 539, (q_pE ext), (q_pR rx), L) I E 6 [some (.int x0)] [] [] []) (P := (122 : Int32) < x0) ok_X15_isLetter rfl q_cn (fun h2 => ?_) (fun h2 => ?_)
    · have hf := q_ip h2 hf
      refine q_blk 1 [] (c' := q_kc (t, r, 0, 529, 539, (q_pE ext), (q_pR rx), L) I E 9 [some (.int x0)] [.int (0 : Int32)] [] []) ok_X15_isLetter rfl q_cn ?_
      cases hf
      exact q_kri ok_X15_isLetter rfl rfl rfl (Nat.le_of_ble_eq_true rfl) (Nat.le_of_ble_eq_true rfl) ⟨rfl, q_hpe (q_pdw [] rfl rfl) (q_pdw [] rfl rfl)⟩
    · have hf := q_in h2 hf
      refine q_blk 2 [] (c' := q_kc (t, r, 0, 529, 539, (q_pE ext), (q_pR rx), L) I E 9 [some (.int x0)] [.int (1 : Int32)] [] []) ok_X15_isLetter rfl q_cn ?_
      cases hf
      exact q_kri ok_X15_isLetter rfl rfl rfl (Nat.le_of_ble_eq_true rfl) (Nat.le_of_ble_eq_true rfl) ⟨rfl, q_hpe (q_pdw [] rfl rfl) (q_pdw [] rfl rfl)⟩
set_option maxHeartbeats 4000000 in
theorem ct_X15_isDigit_P {g : q_G} {t : Nat} {r : Nat} {ext : Nat → q_Sh} {rx : Nat → Nat → Option Nat} {L : Nat → Nat → Int64} {d : Nat} (hd : 1 ≤ d)  {I : Nat → Nat → Int32} {E : Nat → Nat → Option Nat} {x0 : Int32} {r0 : Bool} (hf : f_X15_isDigit x0 = some r0) : q_Ct g m_X15_isDigit d 0 0 [] [.int x0] (q_hp (t, r, 0, 529, 539, (q_pE ext), (q_pR rx), L) I E) (fun o h' => o = .inl (some (.int (q_bz r0))) ∧ h' = q_hp (t, r, 0, 529, 539, (q_pE ext), (q_pR rx), L) (q_ws I []) (q_ws E [])) := by
  rw [f_X15_isDigit] at hf
  refine q_Ct_of ok_X15_isDigit (Nat.le_of_ble_eq_true rfl) ?_ _ rfl rfl
  change q_J g m_X15_isDigit d 0 0 _ [] _ 0 0 (q_kc (t, r, 0, 529, 539, (q_pE ext), (q_pR rx), L) I E 0 [some (.int x0)] [] [] [])
  refine q_blf 2 [] (a := q_kc (t, r, 0, 529, 539, (q_pE ext), (q_pR rx), L) I E 8 [some (.int x0)] [] [] []) (b := q_kc (t, r, 0, 529, 539, (q_pE ext), (q_pR rx), L) I E 3 [some (.int x0)] [] [] []) (P := x0 < (48 : Int32)) ok_X15_isDigit rfl q_cn (fun h1 => ?_) (fun h1 => ?_)
  · have hf := q_ip h1 hf
    refine q_blk 1 [] (c' := q_kc (t, r, 0, 529, 539, (q_pE ext), (q_pR rx), L) I E 9 [some (.int x0)] [.int (0 : Int32)] [] []) ok_X15_isDigit rfl q_cn ?_
    cases hf
    exact q_kri ok_X15_isDigit rfl rfl rfl (Nat.le_of_ble_eq_true rfl) (Nat.le_of_ble_eq_true rfl) ⟨rfl, q_hpe (q_pdw [] rfl rfl) (q_pdw [] rfl rfl)⟩
  · have hf := q_in h1 hf
    refine q_blf 2 [] (a := q_kc (t, r, 0, 529, 539, (q_pE ext), (q_pR rx), L) I E 8 [some (.int x0)] [] [] []) (b := q_kc (t, r, 0, 529, 539, (q_pE ext), (q_pR rx), L) I E 6 [some (.int x0)] [] [] []) (P := (57 : Int32) < x0) ok_X15_isDigit rfl q_cn (fun h2 => ?_) (fun h2 => ?_)
    · have hf := q_ip h2 hf
      refine q_blk 1 [] (c' := q_kc (t, r, 0, 529, 539, (q_pE ext), (q_pR rx), L) I E 9 [some (.int x0)] [.int (0 : Int32)] [] []) ok_X15_isDigit rfl q_cn ?_
      cases hf
      exact q_kri ok_X15_isDigit rfl rfl rfl (Nat.le_of_ble_eq_true rfl) (Nat.le_of_ble_eq_true rfl) ⟨rfl, q_hpe (q_pdw [] rfl rfl) (q_pdw [] rfl rfl)⟩
    · have hf := q_in h2 hf
      refine q_blk 2 [] (c' := q_kc (t, r, 0, 529, 539, (q_pE ext), (q_pR rx), L) I E 9 [some (.int x0)] [.int (1 : Int32)] [] []) ok_X15_isDigit rfl q_cn ?_
      cases hf
      exact q_kri ok_X15_isDigit rfl rfl rfl (Nat.le_of_ble_eq_true rfl) (Nat.le_of_ble_eq_true rfl) ⟨rfl, q_hpe (q_pdw [] rfl rfl) (q_pdw [] rfl rfl)⟩
set_option maxHeartbeats 4000000 in
theorem lp_X15_word_L18_492_P {g : q_G} {d mc ms : Nat} {h0 : q_H} {Q : (Option Value ⊕ String) → q_H → Prop} {k n : Nat} {t : Nat} {r : Nat} {ext : Nat → q_Sh} {rx : Nat → Nat → Option Nat} {L : Nat → Nat → Int64} (hd : 9 ≤ d) (hk : k ≤ mc) (hn : n ≤ ms)  {v1 : Int32} {v2 : Int32} {v3 : Int32} : ∀ (fu : Nat) {I : Nat → Nat → Int32} {E : Nat → Nat → Option Nat} {v4 : Bool} {v5 : Int32} {r0 : Bool} (hf : f_X15_word_L18 (I 493) v1 v2 v3 fu v4 v5 = some r0) (hK0 : q_J g m_X15_word d mc ms h0 [] Q k n (q_kc (t, r, 0, 529, 539, (q_pE ext), (q_pR rx), L) I E 41 [some (.ref 492), some (.int v1), some (.int v2), some (.int v3), some (.int (q_bz r0)), none] [] [] [])), q_J g m_X15_word d mc ms h0 [] Q k n (18, [some (.ref 492), some (.int v1), some (.int v2), some (.int v3), some (.int (q_bz v4)), some (.int v5)], [], q_hp (t, r, 0, 529, 539, (q_pE ext), (q_pR rx), L) I E) := by
  intro fu
  induction fu with
  | zero =>
    intro I E v4 v5 r0 hf hK0
    rw [f_X15_word_L18] at hf
    cases hf
  | succ fu ih =>
    intro I E v4 v5 r0 hf hK0
    rw [f_X15_word_L18] at hf
    change q_J g m_X15_word d mc ms h0 [] Q k n (q_kc (t, r, 0, 529, 539, (q_pE ext), (q_pR rx), L) I E 18 [some (.ref 492), some (.int v1), some (.int v2), some (.int v3), some (.int (q_bz v4)), some (.int v5)] [] [] [])
    refine q_blf 1 [] (a := q_kc (t, r, 0, 529, 539, (q_pE ext), (q_pR rx), L) I E 41 [some (.ref 492), some (.int v1), some (.int v2), some (.int v3), some (.int (q_bz v4)), some (.int v5)] [] [] []) (b := q_kc (t, r, 0, 529, 539, (q_pE ext), (q_pR rx), L) I E 20 [some (.ref 492), some (.int v1), some (.int v2), some (.int v3), some (.int (q_bz v4)), some (.int v5)] [] [] []) (P := (q_bz v4) = 0) ok_X15_word rfl q_cn (fun h1 => ?_) (fun h1 => ?_)
    · have hf := q_ip h1 hf
      refine q_less (ls' := [some (.ref 492), some (.int v1), some (.int v2), some (.int v3), some (.int (q_bz v4)), none]) (q_sb2 (q_sb2 (q_sb2 (q_sb2 (q_sb2 (q_sb1 q_sb0)))))) ?_
      cases hf
      exact q_Jpad (q_pdw [] rfl rfl) (q_pdw [] rfl rfl) hK0
    · have hf := q_in h1 hf
      refine q_blf 2 [] (a := q_kc (t, r, 0, 529, 539, (q_pE ext), (q_pR rx), L) I E 41 [some (.ref 492), some (.int v1), some (.int v2), some (.int v3), some (.int (q_bz v4)), some (.int v5)] [] [] []) (b := q_kc (t, r, 0, 529, 539, (q_pE ext), (q_pR rx), L) I E 23 [some (.ref 492), some (.int v1), some (.int v2), some (.int v3), some (.int (q_bz v4)), some (.int v5)] [] [] []) (P := v2 ≤ v5) ok_X15_word rfl q_cn (fun h2 => ?_) (fun h2 => ?_)
      · have hf := q_ip h2 hf
        refine q_less (ls' := [some (.ref 492), some (.int v1), some (.int v2), some (.int v3), some (.int (q_bz v4)), none]) (q_sb2 (q_sb2 (q_sb2 (q_sb2 (q_sb2 (q_sb1 q_sb0)))))) ?_
        cases hf
        exact q_Jpad (q_pdw [] rfl rfl) (q_pdw [] rfl rfl) hK0
      · have hf := q_in h2 hf
        obtain ⟨j3, hj3, hf⟩ := q_bd hf
        refine q_blk 4 [j3] (c' := q_kc (t, r, 0, 529, 539, (q_pE ext), (q_pR rx), L) I E 27 [some (.ref 492), some (.int v1), some (.int v2), some (.int v3), some (.int (q_bz v4)), some (.int v5)] [.int v5, .ref (150 + j3)] [] []) ok_X15_word rfl (q_cc hj3 q_cn) ?_
        obtain ⟨j4, hj4, hf⟩ := q_bd hf
        refine q_kschr (pos' := 28) ok_X15_word rfl (Or.inl rfl) (q_isSw (q_ix_lt hj3)) hj4 (Nat.le_trans (Nat.le_of_ble_eq_true rfl) hd) (Nat.le_of_ble_eq_true rfl) hk hn rfl ?_
        obtain ⟨j5, hj5, hf⟩ := q_bd hf
        refine q_blf 6 [j5] (a := q_kc (t, r, 0, 529, 539, (q_pE ext), (q_pR rx), L) I E 37 [some (.ref 492), some (.int v1), some (.int v2), some (.int v3), some (.int (q_bz v4)), some (.int v5)] [] [] []) (b := q_kc (t, r, 0, 529, 539, (q_pE ext), (q_pR rx), L) I E 35 [some (.ref 492), some (.int v1), some (.int v2), some (.int v3), some (.int (q_bz v4)), some (.int v5)] [] [] []) (P := ¬ ((q_str (150 + j3)).getD j4 0) = ((I 493) j5)) ok_X15_word rfl (q_cc hj5 q_cn) (fun h6 => ?_) (fun h6 => ?_)
        · have hf := q_ip h6 hf
          refine q_blk 4 [] (c' := q_kc (t, r, 0, 529, 539, (q_pE ext), (q_pR rx), L) I E 18 [some (.ref 492), some (.int v1), some (.int v2), some (.int v3), some (.int (0 : Int32)), some (.int (v5 + 1))] [] [] []) ok_X15_word rfl q_cn ?_
          exact ih (I := q_ws I []) (E := q_ws E []) hf (q_Jmrg (q_mgw rfl rfl) (q_mgw rfl rfl) hK0)
        · have hf := q_in h6 hf
          refine q_blk 5 [] (c' := q_kc (t, r, 0, 529, 539, (q_pE ext), (q_pR rx), L) I E 18 [some (.ref 492), some (.int v1), some (.int v2), some (.int v3), some (.int (1 : Int32)), some (.int (v5 + 1))] [] [] []) ok_X15_word rfl q_cn ?_
          exact ih (I := q_ws I []) (E := q_ws E []) hf (q_Jmrg (q_mgw rfl rfl) (q_mgw rfl rfl) hK0)
set_option maxHeartbeats 4000000 in
theorem lp_X15_word_L2_492_P {g : q_G} {d mc ms : Nat} {h0 : q_H} {Q : (Option Value ⊕ String) → q_H → Prop} {k n : Nat} {t : Nat} {r : Nat} {ext : Nat → q_Sh} {rx : Nat → Nat → Option Nat} {L : Nat → Nat → Int64} (hd : 9 ≤ d) (hk : k ≤ mc) (hn : n ≤ ms)  {v1 : Int32} {v2 : Int32} : ∀ (fu : Nat) {I : Nat → Nat → Int32} {E : Nat → Nat → Option Nat} {v3 : Int32} {r0 : Nat × Int32} (hf : f_X15_word_L2 (I 493) v1 v2 fu v3 = some r0) (hK0 : r0.1 = 0 → q_J g m_X15_word d mc ms h0 [] Q k n (q_kc (t, r, 0, 529, 539, (q_pE ext), (q_pR rx), L) I E 47 [none, none, none, none, none, none] [] [] [])) (hK1 : r0.1 = 1 → q_J g m_X15_word d mc ms h0 [] Q k n (q_kc (t, r, 0, 529, 539, (q_pE ext), (q_pR rx), L) I E 43 [none, none, none, some (.int r0.2), none, none] [] [] [])), q_J g m_X15_word d mc ms h0 [] Q k n (2, [some (.ref 492), some (.int v1), some (.int v2), some (.int v3), none, none], [], q_hp (t, r, 0, 529, 539, (q_pE ext), (q_pR rx), L) I E) := by
  intro fu
  induction fu with
  | zero =>
    intro I E v3 r0 hf hK0 hK1
    rw [f_X15_word_L2] at hf
    cases hf
  | succ fu ih =>
    intro I E v3 r0 hf hK0 hK1
    rw [f_X15_word_L2] at hf
    change q_J g m_X15_word d mc ms h0 [] Q k n (q_kc (t, r, 0, 529, 539, (q_pE ext), (q_pR rx), L) I E 2 [some (.ref 492), some (.int v1), some (.int v2), some (.int v3), none, none] [] [] [])
    refine q_blf 3 [] (a := q_kc (t, r, 0, 529, 539, (q_pE ext), (q_pR rx), L) I E 47 [some (.ref 492), some (.int v1), some (.int v2), some (.int v3), none, none] [] [] []) (b := q_kc (t, r, 0, 529, 539, (q_pE ext), (q_pR rx), L) I E 6 [some (.ref 492), some (.int v1), some (.int v2), some (.int v3), none, none] [] [] []) (P := (nI 29) ≤ v3) ok_X15_word rfl q_cn (fun h7 => ?_) (fun h7 => ?_)
    · have hf := q_ip h7 hf
      refine q_less (ls' := [none, none, none, none, none, none]) (q_sb1 (q_sb1 (q_sb1 (q_sb1 (q_sb1 (q_sb1 q_sb0)))))) ?_
      cases hf
      exact q_Jpad (q_pdw [] rfl rfl) (q_pdw [] rfl rfl) (hK0 rfl)
    · have hf := q_in h7 hf
      obtain ⟨j8, hj8, hf⟩ := q_bd hf
      refine q_blk 3 [j8] (c' := q_kc (t, r, 0, 529, 539, (q_pE ext), (q_pR rx), L) I E 9 [some (.ref 492), some (.int v1), some (.int v2), some (.int v3), none, none] [.ref (150 + j8)] [] []) ok_X15_word rfl (q_cc hj8 q_cn) ?_
      refine q_kslen (pos' := 10) ok_X15_word rfl (Or.inl rfl) (q_isSw (q_ix_lt hj8)) (Nat.le_trans (Nat.le_of_ble_eq_true rfl) hd) (Nat.le_of_ble_eq_true rfl) hk hn rfl ?_
      refine q_blf 1 [] (a := q_kc (t, r, 0, 529, 539, (q_pE ext), (q_pR rx), L) I E 14 [some (.ref 492), some (.int v1), some (.int v2), some (.int v3), none, none] [] [] []) (b := q_kc (t, r, 0, 529, 539, (q_pE ext), (q_pR rx), L) I E 12 [some (.ref 492), some (.int v1), some (.int v2), some (.int v3), none, none] [] [] []) (P := ¬ (nI (q_str (150 + j8)).length) = v2) ok_X15_word rfl q_cn (fun h9 => ?_) (fun h9 => ?_)
      · have hf := q_ip h9 hf
        refine q_blk 4 [] (c' := q_kc (t, r, 0, 529, 539, (q_pE ext), (q_pR rx), L) I E 18 [some (.ref 492), some (.int v1), some (.int v2), some (.int v3), some (.int (0 : Int32)), some (.int (0 : Int32))] [] [] []) ok_X15_word rfl q_cn ?_
        obtain ⟨r10, hr10, hf⟩ := q_bd hf
        refine lp_X15_word_L18_492_P (I := q_ws I []) (E := q_ws E []) hd hk hn 4096 hr10 ?_
        refine q_Jmrg (lI' := []) (lE' := []) (q_mgw rfl rfl) (q_mgw rfl rfl) ?_
        refine q_blf 1 [] (a := q_kc (t, r, 0, 529, 539, (q_pE ext), (q_pR rx), L) I E 45 [some (.ref 492), some (.int v1), some (.int v2), some (.int v3), some (.int (q_bz r10)), none] [] [] []) (b := q_kc (t, r, 0, 529, 539, (q_pE ext), (q_pR rx), L) I E 43 [some (.ref 492), some (.int v1), some (.int v2), some (.int v3), some (.int (q_bz r10)), none] [] [] []) (P := (q_bz r10) = 0) ok_X15_word rfl q_cn (fun h11 => ?_) (fun h11 => ?_)
        · have hf := q_ip h11 hf
          refine q_blk 2 [] (c' := q_kc (t, r, 0, 529, 539, (q_pE ext), (q_pR rx), L) I E 2 [some (.ref 492), some (.int v1), some (.int v2), some (.int (v3 + 1)), some (.int (q_bz r10)), none] [] [] []) ok_X15_word rfl q_cn ?_
          refine q_less (ls' := [some (.ref 492), some (.int v1), some (.int v2), some (.int (v3 + 1)), none, none]) (q_sb2 (q_sb2 (q_sb2 (q_sb2 (q_sb1 (q_sb1 q_sb0)))))) ?_
          exact ih (I := q_ws I []) (E := q_ws E []) hf (fun hz => q_Jmrg (q_mgw rfl rfl) (q_mgw rfl rfl) (hK0 hz)) (fun hz => q_Jmrg (q_mgw rfl rfl) (q_mgw rfl rfl) (hK1 hz))
        · have hf := q_in h11 hf
          refine q_less (ls' := [none, none, none, some (.int v3), none, none]) (q_sb1 (q_sb1 (q_sb1 (q_sb2 (q_sb1 (q_sb1 q_sb0)))))) ?_
          cases hf
          exact q_Jpad (q_pdw [] rfl rfl) (q_pdw [] rfl rfl) (hK1 rfl)
      · have hf := q_in h9 hf
        refine q_blk 5 [] (c' := q_kc (t, r, 0, 529, 539, (q_pE ext), (q_pR rx), L) I E 18 [some (.ref 492), some (.int v1), some (.int v2), some (.int v3), some (.int (1 : Int32)), some (.int (0 : Int32))] [] [] []) ok_X15_word rfl q_cn ?_
        obtain ⟨r12, hr12, hf⟩ := q_bd hf
        refine lp_X15_word_L18_492_P (I := q_ws I []) (E := q_ws E []) hd hk hn 4096 hr12 ?_
        refine q_Jmrg (lI' := []) (lE' := []) (q_mgw rfl rfl) (q_mgw rfl rfl) ?_
        refine q_blf 1 [] (a := q_kc (t, r, 0, 529, 539, (q_pE ext), (q_pR rx), L) I E 45 [some (.ref 492), some (.int v1), some (.int v2), some (.int v3), some (.int (q_bz r12)), none] [] [] []) (b := q_kc (t, r, 0, 529, 539, (q_pE ext), (q_pR rx), L) I E 43 [some (.ref 492), some (.int v1), some (.int v2), some (.int v3), some (.int (q_bz r12)), none] [] [] []) (P := (q_bz r12) = 0) ok_X15_word rfl q_cn (fun h13 => ?_) (fun h13 => ?_)
        · have hf := q_ip h13 hf
          refine q_blk 2 [] (c' := q_kc (t, r, 0, 529, 539, (q_pE ext), (q_pR rx), L) I E 2 [some (.ref 492), some (.int v1), some (.int v2), some (.int (v3 + 1)), some (.int (q_bz r12)), none] [] [] []) ok_X15_word rfl q_cn ?_
          refine q_less (ls' := [some (.ref 492), some (.int v1), some (.int v2), some (.int (v3 + 1)), none, none]) (q_sb2 (q_sb2 (q_sb2 (q_sb2 (q_sb1 (q_sb1 q_sb0)))))) ?_
          exact ih (I := q_ws I []) (E := q_ws E []) hf (fun hz => q_Jmrg (q_mgw rfl rfl) (q_mgw rfl rfl) (hK0 hz)) (fun hz => q_Jmrg (q_mgw rfl rfl) (q_mgw rfl rfl) (hK1 hz))
        · have hf := q_in h13 hf
          refine q_less (ls' := [none, none, none, some (.int v3), none, none]) (q_sb1 (q_sb1 (q_sb1 (q_sb2 (q_sb1 (q_sb1 q_sb0)))))) ?_
          cases hf
          exact q_Jpad (q_pdw [] rfl rfl) (q_pdw [] rfl rfl) (hK1 rfl)
set_option maxHeartbeats 4000000 in
theorem ct_X15_word_492_P {g : q_G} {t : Nat} {r : Nat} {ext : Nat → q_Sh} {rx : Nat → Nat → Option Nat} {L : Nat → Nat → Int64} {d : Nat} (hd : 9 ≤ d)  {I : Nat → Nat → Int32} {E : Nat → Nat → Option Nat} {x1 : Int32} {x2 : Int32} {r0 : Int32} (hf : f_X15_word (I 493) x1 x2 = some r0) : q_Ct g m_X15_word d 0 0 [] [.ref 492, .int x1, .int x2] (q_hp (t, r, 0, 529, 539, (q_pE ext), (q_pR rx), L) I E) (fun o h' => o = .inl (some (.int r0)) ∧ h' = q_hp (t, r, 0, 529, 539, (q_pE ext), (q_pR rx), L) (q_ws I []) (q_ws E [])) := by
  rw [f_X15_word] at hf
  refine q_Ct_of ok_X15_word (Nat.le_of_ble_eq_true rfl) ?_ _ rfl rfl
  change q_J g m_X15_word d 0 0 _ [] _ 0 0 (q_kc (t, r, 0, 529, 539, (q_pE ext), (q_pR rx), L) I E 0 [some (.ref 492), some (.int x1), some (.int x2), none, none, none] [] [] [])
  refine q_blk 2 [] (c' := q_kc (t, r, 0, 529, 539, (q_pE ext), (q_pR rx), L) I E 2 [some (.ref 492), some (.int x1), some (.int x2), some (.int (0 : Int32)), none, none] [] [] []) ok_X15_word rfl q_cn ?_
  obtain ⟨r14, hr14, hf⟩ := q_bd hf
  refine lp_X15_word_L2_492_P (I := q_ws I []) (E := q_ws E []) hd (Nat.le_of_ble_eq_true rfl) (Nat.le_of_ble_eq_true rfl) 4096 hr14 ?_ ?_
  · intro hz0
    have hf := q_ip hz0 hf
    refine q_Jmrg (lI' := []) (lE' := []) (q_mgw rfl rfl) (q_mgw rfl rfl) ?_
    refine q_blk 1 [] (c' := q_kc (t, r, 0, 529, 539, (q_pE ext), (q_pR rx), L) I E 48 [none, none, none, none, none, none] [.int (40 : Int32)] [] []) ok_X15_word rfl q_cn ?_
    cases hf
    exact q_kri ok_X15_word rfl rfl rfl (Nat.le_of_ble_eq_true rfl) (Nat.le_of_ble_eq_true rfl) ⟨rfl, q_hpe (q_pdw [] rfl rfl) (q_pdw [] rfl rfl)⟩
  · intro hz1
    have hf := q_in (fun h9 => absurd (hz1.symm.trans h9) (by decide)) hf
    refine q_Jmrg (lI' := []) (lE' := []) (q_mgw rfl rfl) (q_mgw rfl rfl) ?_
    refine q_blk 1 [] (c' := q_kc (t, r, 0, 529, 539, (q_pE ext), (q_pR rx), L) I E 44 [none, none, none, some (.int r14.2), none, none] [.int r14.2] [] []) ok_X15_word rfl q_cn ?_
    cases hf
    exact q_kri ok_X15_word rfl rfl rfl (Nat.le_of_ble_eq_true rfl) (Nat.le_of_ble_eq_true rfl) ⟨rfl, q_hpe (q_pdw [] rfl rfl) (q_pdw [] rfl rfl)⟩
set_option maxHeartbeats 4000000 in
theorem lp_X15_kindAt_L19_492_P {g : q_G} {d mc ms : Nat} {h0 : q_H} {Q : (Option Value ⊕ String) → q_H → Prop} {k n : Nat} {t : Nat} {r : Nat} {ext : Nat → q_Sh} {rx : Nat → Nat → Option Nat} {L : Nat → Nat → Int64} (hd : 10 ≤ d) (hk : k ≤ mc) (hn : n ≤ ms)  {v1 : Int32} {v2 : Int32} {v3 : Int32} : ∀ (fu : Nat) {I : Nat → Nat → Int32} {E : Nat → Nat → Option Nat} {v4 : Int32} {r0 : Int32} (hf : f_X15_kindAt_L19 (I 492) (I 493) v3 fu v4 = some r0) (hK0 : q_J g m_X15_kindAt d mc ms h0 [] Q k n (q_kc (t, r, 0, 529, 539, (q_pE ext), (q_pR rx), L) I E 34 [some (.ref 492), some (.int v1), some (.int v2), some (.int v3), some (.int r0), none] [] [] [])), q_J g m_X15_kindAt d mc ms h0 [] Q k n (19, [some (.ref 492), some (.int v1), some (.int v2), some (.int v3), some (.int v4), none], [], q_hp (t, r, 0, 529, 539, (q_pE ext), (q_pR rx), L) I E) := by
  intro fu
  induction fu with
  | zero =>
    intro I E v4 r0 hf hK0
    rw [f_X15_kindAt_L19] at hf
    cases hf
  | succ fu ih =>
    intro I E v4 r0 hf hK0
    rw [f_X15_kindAt_L19] at hf
    change q_J g m_X15_kindAt d mc ms h0 [] Q k n (q_kc (t, r, 0, 529, 539, (q_pE ext), (q_pR rx), L) I E 19 [some (.ref 492), some (.int v1), some (.int v2), some (.int v3), some (.int v4), none] [] [] [])
    refine q_blk 2 [] (c' := q_kc (t, r, 0, 529, 539, (q_pE ext), (q_pR rx), L) I E 21 [some (.ref 492), some (.int v1), some (.int v2), some (.int v3), some (.int v4), none] [.int v4, .ref 492] [] []) ok_X15_kindAt rfl q_cn ?_
    obtain ⟨r1, hr1, hf⟩ := q_bd hf
    refine q_kV (M2 := m_X15_byteOf) (As := [.int v4]) (b := 492) (v2 := some (.int r1)) ok_X15_kindAt ok_X15_byteOf cv_X15_byteOf (ct_X15_byteOf_492_P (d := 1) (Nat.le_refl _) hr1) rfl rfl (Or.inl rfl) rfl rfl rfl rfl (Nat.le_trans (Nat.le_of_ble_eq_true rfl) hd) hk hn (Nat.le_of_ble_eq_true rfl) (fun x hx => absurd hx List.not_mem_nil) (q_nmL0 _) (q_nmS0 _) rfl (pos' := 22) (st' := [.int r1]) (lI' := []) (lE' := []) rfl rfl rfl rfl ?_
    obtain ⟨r2, hr2, hf⟩ := q_bd hf
    refine q_kS (M2 := m_X15_isDigit) (As := [.int r1]) (v2 := some (.int (q_bz r2))) ok_X15_kindAt ok_X15_isDigit cs_X15_isDigit (ct_X15_isDigit_P (d := 1) (Nat.le_refl _) hr2) rfl rfl (Or.inl rfl) (Nat.le_trans (Nat.le_of_ble_eq_true rfl) hd) hk hn (Nat.le_of_ble_eq_true rfl) (fun x hx => absurd hx List.not_mem_nil) (q_nmL0 _) (q_nmS0 _) rfl (pos' := 23) (st' := [.int (q_bz r2)]) (lI' := []) (lE' := []) rfl rfl rfl rfl ?_
    refine q_blf 0 [] (a := q_kc (t, r, 0, 529, 539, (q_pE ext), (q_pR rx), L) I E 32 [some (.ref 492), some (.int v1), some (.int v2), some (.int v3), some (.int v4), none] [] [] []) (b := q_kc (t, r, 0, 529, 539, (q_pE ext), (q_pR rx), L) I E 24 [some (.ref 492), some (.int v1), some (.int v2), some (.int v3), some (.int v4), none] [] [] []) (P := ¬ (q_bz r2) = 0) ok_X15_kindAt rfl q_cn (fun h3 => ?_) (fun h3 => ?_)
    · have hf := q_ip h3 hf
      refine q_blk 2 [] (c' := q_kc (t, r, 0, 529, 539, (q_pE ext), (q_pR rx), L) I E 19 [some (.ref 492), some (.int v1), some (.int v2), some (.int v3), some (.int (v4 + 1)), none] [] [] []) ok_X15_kindAt rfl q_cn ?_
      exact ih (I := q_ws I []) (E := q_ws E []) hf (q_Jmrg (q_mgw rfl rfl) (q_mgw rfl rfl) hK0)
    · have hf := q_in h3 hf
      refine q_blk 1 [] (c' := q_kc (t, r, 0, 529, 539, (q_pE ext), (q_pR rx), L) I E 25 [some (.ref 492), some (.int v1), some (.int v2), some (.int v3), some (.int v4), none] [.int v3] [] []) ok_X15_kindAt rfl q_cn ?_
      obtain ⟨r4, hr4, hf⟩ := q_bd hf
      refine q_kS (M2 := m_X15_isLetter) (As := [.int v3]) (v2 := some (.int (q_bz r4))) ok_X15_kindAt ok_X15_isLetter cs_X15_isLetter (ct_X15_isLetter_P (d := 1) (Nat.le_refl _) hr4) rfl rfl (Or.inl rfl) (Nat.le_trans (Nat.le_of_ble_eq_true rfl) hd) hk hn (Nat.le_of_ble_eq_true rfl) (fun x hx => absurd hx List.not_mem_nil) (q_nmL0 _) (q_nmS0 _) rfl (pos' := 26) (st' := [.int (q_bz r4)]) (lI' := []) (lE' := []) rfl rfl rfl rfl ?_
      refine q_blf 0 [] (a := q_kc (t, r, 0, 529, 539, (q_pE ext), (q_pR rx), L) I E 34 [some (.ref 492), some (.int v1), some (.int v2), some (.int v3), some (.int v4), none] [] [] []) (b := q_kc (t, r, 0, 529, 539, (q_pE ext), (q_pR rx), L) I E 27 [some (.ref 492), some (.int v1), some (.int v2), some (.int v3), some (.int v4), none] [] [] []) (P := (q_bz r4) = 0) ok_X15_kindAt rfl q_cn (fun h5 => ?_) (fun h5 => ?_)
      · have hf := q_ip h5 hf
        cases hf
        exact q_Jpad (q_pdw [] rfl rfl) (q_pdw [] rfl rfl) hK0
      · have hf := q_in h5 hf
        refine q_blk 2 [] (c' := q_kc (t, r, 0, 529, 539, (q_pE ext), (q_pR rx), L) I E 29 [some (.ref 492), some (.int v1), some (.int v2), some (.int v3), some (.int v4), none] [.int v4, .ref 492] [] []) ok_X15_kindAt rfl q_cn ?_
        obtain ⟨r6, hr6, hf⟩ := q_bd hf
        refine q_kV (M2 := m_X15_byteOf) (As := [.int v4]) (b := 492) (v2 := some (.int r6)) ok_X15_kindAt ok_X15_byteOf cv_X15_byteOf (ct_X15_byteOf_492_P (d := 1) (Nat.le_refl _) hr6) rfl rfl (Or.inl rfl) rfl rfl rfl rfl (Nat.le_trans (Nat.le_of_ble_eq_true rfl) hd) hk hn (Nat.le_of_ble_eq_true rfl) (fun x hx => absurd hx List.not_mem_nil) (q_nmL0 _) (q_nmS0 _) rfl (pos' := 30) (st' := [.int r6]) (lI' := []) (lE' := []) rfl rfl rfl rfl ?_
        obtain ⟨r7, hr7, hf⟩ := q_bd hf
        refine q_kS (M2 := m_X15_isLetter) (As := [.int r6]) (v2 := some (.int (q_bz r7))) ok_X15_kindAt ok_X15_isLetter cs_X15_isLetter (ct_X15_isLetter_P (d := 1) (Nat.le_refl _) hr7) rfl rfl (Or.inl rfl) (Nat.le_trans (Nat.le_of_ble_eq_true rfl) hd) hk hn (Nat.le_of_ble_eq_true rfl) (fun x hx => absurd hx List.not_mem_nil) (q_nmL0 _) (q_nmS0 _) rfl (pos' := 31) (st' := [.int (q_bz r7)]) (lI' := []) (lE' := []) rfl rfl rfl rfl ?_
        refine q_blf 0 [] (a := q_kc (t, r, 0, 529, 539, (q_pE ext), (q_pR rx), L) I E 34 [some (.ref 492), some (.int v1), some (.int v2), some (.int v3), some (.int v4), none] [] [] []) (b := q_kc (t, r, 0, 529, 539, (q_pE ext), (q_pR rx), L) I E 32 [some (.ref 492), some (.int v1), some (.int v2), some (.int v3), some (.int v4), none] [] [] []) (P := (q_bz r7) = 0) ok_X15_kindAt rfl q_cn (fun h8 => ?_) (fun h8 => ?_)
        · have hf := q_ip h8 hf
          cases hf
          exact q_Jpad (q_pdw [] rfl rfl) (q_pdw [] rfl rfl) hK0
        · have hf := q_in h8 hf
          refine q_blk 2 [] (c' := q_kc (t, r, 0, 529, 539, (q_pE ext), (q_pR rx), L) I E 19 [some (.ref 492), some (.int v1), some (.int v2), some (.int v3), some (.int (v4 + 1)), none] [] [] []) ok_X15_kindAt rfl q_cn ?_
          exact ih (I := q_ws I []) (E := q_ws E []) hf (q_Jmrg (q_mgw rfl rfl) (q_mgw rfl rfl) hK0)
set_option maxHeartbeats 4000000 in
theorem ct_X15_kindAt_492_P {g : q_G} {t : Nat} {r : Nat} {ext : Nat → q_Sh} {rx : Nat → Nat → Option Nat} {L : Nat → Nat → Int64} {d : Nat} (hd : 10 ≤ d)  {I : Nat → Nat → Int32} {E : Nat → Nat → Option Nat} {x1 : Int32} {x2 : Int32} {r0 : Int32 × (Nat → Int32)} (hf : f_X15_kindAt (I 492) (I 493) (I 496) x1 x2 = some r0) : q_Ct g m_X15_kindAt d 0 0 [] [.ref 492, .int x1, .int x2] (q_hp (t, r, 0, 529, 539, (q_pE ext), (q_pR rx), L) I E) (fun o h' => o = .inl (some (.int r0.1)) ∧ h' = q_hp (t, r, 0, 529, 539, (q_pE ext), (q_pR rx), L) (q_ws I [(496, r0.2)]) (q_ws E [])) := by
  rw [f_X15_kindAt] at hf
  refine q_Ct_of ok_X15_kindAt (Nat.le_of_ble_eq_true rfl) ?_ _ rfl rfl
  change q_J g m_X15_kindAt d 0 0 _ [] _ 0 0 (q_kc (t, r, 0, 529, 539, (q_pE ext), (q_pR rx), L) I E 0 [some (.ref 492), some (.int x1), some (.int x2), none, none, none] [] [] [])
  refine q_blk 2 [] (c' := q_kc (t, r, 0, 529, 539, (q_pE ext), (q_pR rx), L) I E 2 [some (.ref 492), some (.int x1), some (.int x2), none, none, none] [.int x1, .ref 492] [] []) ok_X15_kindAt rfl q_cn ?_
  obtain ⟨r9, hr9, hf⟩ := q_bd hf
  refine q_kV (M2 := m_X15_byteOf) (As := [.int x1]) (b := 492) (v2 := some (.int r9)) ok_X15_kindAt ok_X15_byteOf cv_X15_byteOf (ct_X15_byteOf_492_P (d := 1) (Nat.le_refl _) hr9) rfl rfl (Or.inl rfl) rfl rfl rfl rfl (Nat.le_trans (Nat.le_of_ble_eq_true rfl) hd) (Nat.le_of_ble_eq_true rfl) (Nat.le_of_ble_eq_true rfl) (Nat.le_of_ble_eq_true rfl) (fun x hx => absurd hx List.not_mem_nil) (q_nmL0 _) (q_nmS0 _) rfl (pos' := 3) (st' := [.int r9]) (lI' := []) (lE' := []) rfl rfl rfl rfl ?_
  refine q_blf 7 [] (a := q_kc (t, r, 0, 529, 539, (q_pE ext), (q_pR rx), L) I E 13 [some (.ref 492), some (.int x1), some (.int x2), some (.int r9), some (.int (x1 + (1 : Int32))), none] [] [] []) (b := q_kc (t, r, 0, 529, 539, (q_pE ext), (q_pR rx), L) I E 11 [some (.ref 492), some (.int x1), some (.int x2), some (.int r9), some (.int (x1 + (1 : Int32))), none] [] [] []) (P := ¬ r9 = (-1 : Int32)) ok_X15_kindAt rfl q_cn (fun h10 => ?_) (fun h10 => ?_)
  · have hf := q_ip h10 hf
    refine q_blk 1 [] (c' := q_kc (t, r, 0, 529, 539, (q_pE ext), (q_pR rx), L) I E 14 [some (.ref 492), some (.int x1), some (.int x2), some (.int r9), some (.int (x1 + (1 : Int32))), none] [.int r9] [] []) ok_X15_kindAt rfl q_cn ?_
    obtain ⟨r11, hr11, hf⟩ := q_bd hf
    refine q_kS (M2 := m_X15_isLetter) (As := [.int r9]) (v2 := some (.int (q_bz r11))) ok_X15_kindAt ok_X15_isLetter cs_X15_isLetter (ct_X15_isLetter_P (d := 1) (Nat.le_refl _) hr11) rfl rfl (Or.inl rfl) (Nat.le_trans (Nat.le_of_ble_eq_true rfl) hd) (Nat.le_of_ble_eq_true rfl) (Nat.le_of_ble_eq_true rfl) (Nat.le_of_ble_eq_true rfl) (fun x hx => absurd hx List.not_mem_nil) (q_nmL0 _) (q_nmS0 _) rfl (pos' := 15) (st' := [.int (q_bz r11)]) (lI' := []) (lE' := []) rfl rfl rfl rfl ?_
    refine q_blf 0 [] (a := q_kc (t, r, 0, 529, 539, (q_pE ext), (q_pR rx), L) I E 19 [some (.ref 492), some (.int x1), some (.int x2), some (.int r9), some (.int (x1 + (1 : Int32))), none] [] [] []) (b := q_kc (t, r, 0, 529, 539, (q_pE ext), (q_pR rx), L) I E 16 [some (.ref 492), some (.int x1), some (.int x2), some (.int r9), some (.int (x1 + (1 : Int32))), none] [] [] []) (P := ¬ (q_bz r11) = 0) ok_X15_kindAt rfl q_cn (fun h12 => ?_) (fun h12 => ?_)
    · have hf := q_ip h12 hf
      obtain ⟨r13, hr13, hf⟩ := q_bd hf
      refine lp_X15_kindAt_L19_492_P (I := q_ws I []) (E := q_ws E []) hd (Nat.le_of_ble_eq_true rfl) (Nat.le_of_ble_eq_true rfl) 4096 hr13 ?_
      refine q_Jmrg (lI' := []) (lE' := []) (q_mgw rfl rfl) (q_mgw rfl rfl) ?_
      obtain ⟨j14, hj14, hf⟩ := q_bd hf
      refine q_blk 11 [j14] (c' := q_kc (t, r, 0, 529, 539, (q_pE ext), (q_pR rx), L) I E 45 [some (.ref 492), some (.int x1), some (.int x2), some (.int r9), some (.int r13), none] [.int r9, .int (r13 - x1)] [(496, (q_up (I 496) j14 (r13 - x1)))] []) ok_X15_kindAt rfl (q_cc hj14 q_cn) ?_
      obtain ⟨r15, hr15, hf⟩ := q_bd hf
      refine q_kS (M2 := m_X15_isLetter) (As := [.int r9]) (v2 := some (.int (q_bz r15))) ok_X15_kindAt ok_X15_isLetter cs_X15_isLetter (ct_X15_isLetter_P (d := 1) (Nat.le_refl _) hr15) rfl rfl (Or.inl rfl) (Nat.le_trans (Nat.le_of_ble_eq_true rfl) hd) (Nat.le_of_ble_eq_true rfl) (Nat.le_of_ble_eq_true rfl) (Nat.le_of_ble_eq_true rfl) (fun x hx => absurd hx List.not_mem_nil) (q_nmL0 _) (q_nmS0 _) rfl (pos' := 46) (st' := [.int (q_bz r15), .int (r13 - x1)]) (lI' := [(496, (q_up (I 496) j14 (r13 - x1)))]) (lE' := []) rfl rfl rfl rfl ?_
      refine q_blf 0 [] (a := q_kc (t, r, 0, 529, 539, (q_pE ext), (q_pR rx), L) I E 49 [some (.ref 492), some (.int x1), some (.int x2), some (.int r9), some (.int r13), none] [.int (r13 - x1)] [(496, (q_up (I 496) j14 (r13 - x1)))] []) (b := q_kc (t, r, 0, 529, 539, (q_pE ext), (q_pR rx), L) I E 47 [some (.ref 492), some (.int x1), some (.int x2), some (.int r9), some (.int r13), none] [.int (r13 - x1)] [(496, (q_up (I 496) j14 (r13 - x1)))] []) (P := (q_bz r15) = 0) ok_X15_kindAt rfl q_cn (fun h16 => ?_) (fun h16 => ?_)
      · have hf := q_ip h16 hf
        refine q_blf 1 [] (a := q_kc (t, r, 0, 529, 539, (q_pE ext), (q_pR rx), L) I E 53 [some (.ref 492), some (.int x1), some (.int x2), some (.int r9), some (.int r13), none] [] [(496, (q_up (I 496) j14 (r13 - x1)))] []) (b := q_kc (t, r, 0, 529, 539, (q_pE ext), (q_pR rx), L) I E 51 [some (.ref 492), some (.int x1), some (.int x2), some (.int r9), some (.int r13), none] [] [(496, (q_up (I 496) j14 (r13 - x1)))] []) (P := (r13 - x1) ≤ (6 : Int32)) ok_X15_kindAt rfl q_cn (fun h17 => ?_) (fun h17 => ?_)
        · have hf := q_ip h17 hf
          refine q_blk 1 [] (c' := q_kc (t, r, 0, 529, 539, (q_pE ext), (q_pR rx), L) I E 54 [some (.ref 492), some (.int x1), some (.int x2), some (.int r9), some (.int r13), none] [.int r9] [(496, (q_up (I 496) j14 (r13 - x1)))] []) ok_X15_kindAt rfl q_cn ?_
          obtain ⟨r18, hr18, hf⟩ := q_bd hf
          refine q_kS (M2 := m_X15_isLetter) (As := [.int r9]) (v2 := some (.int (q_bz r18))) ok_X15_kindAt ok_X15_isLetter cs_X15_isLetter (ct_X15_isLetter_P (d := 1) (Nat.le_refl _) hr18) rfl rfl (Or.inl rfl) (Nat.le_trans (Nat.le_of_ble_eq_true rfl) hd) (Nat.le_of_ble_eq_true rfl) (Nat.le_of_ble_eq_true rfl) (Nat.le_of_ble_eq_true rfl) (fun x hx => absurd hx List.not_mem_nil) (q_nmL0 _) (q_nmS0 _) rfl (pos' := 55) (st' := [.int (q_bz r18)]) (lI' := [(496, (q_up (I 496) j14 (r13 - x1)))]) (lE' := []) rfl rfl rfl rfl ?_
          refine q_blf 0 [] (a := q_kc (t, r, 0, 529, 539, (q_pE ext), (q_pR rx), L) I E 63 [some (.ref 492), some (.int x1), some (.int x2), some (.int r9), some (.int r13), none] [] [(496, (q_up (I 496) j14 (r13 - x1)))] []) (b := q_kc (t, r, 0, 529, 539, (q_pE ext), (q_pR rx), L) I E 56 [some (.ref 492), some (.int x1), some (.int x2), some (.int r9), some (.int r13), none] [] [(496, (q_up (I 496) j14 (r13 - x1)))] []) (P := (q_bz r18) = 0) ok_X15_kindAt rfl q_cn (fun h19 => ?_) (fun h19 => ?_)
          · have hf := q_ip h19 hf
            refine q_blk 1 [] (c' := q_kc (t, r, 0, 529, 539, (q_pE ext), (q_pR rx), L) I E 64 [some (.ref 492), some (.int x1), some (.int x2), some (.int r9), some (.int r13), none] [.int (41 : Int32)] [(496, (q_up (I 496) j14 (r13 - x1)))] []) ok_X15_kindAt rfl q_cn ?_
            cases hf
            exact q_kri ok_X15_kindAt rfl rfl rfl (Nat.le_of_ble_eq_true rfl) (Nat.le_of_ble_eq_true rfl) ⟨rfl, q_hpe (q_pdw [496] rfl rfl) (q_pdw [] rfl rfl)⟩
          · have hf := q_in h19 hf
            refine q_blk 5 [] (c' := q_kc (t, r, 0, 529, 539, (q_pE ext), (q_pR rx), L) I E 61 [some (.ref 492), some (.int x1), some (.int x2), some (.int r9), some (.int r13), none] [.int (r13 - x1), .int x1, .ref 492] [(496, (q_up (I 496) j14 (r13 - x1)))] []) ok_X15_kindAt rfl q_cn ?_
            obtain ⟨r20, hr20, hf⟩ := q_bd hf
            refine q_kV (M2 := m_X15_word) (As := [.int x1, .int (r13 - x1)]) (b := 492) (v2 := some (.int r20)) ok_X15_kindAt ok_X15_word cv_X15_word (ct_X15_word_492_P (d := 9) (Nat.le_refl _) hr20) rfl rfl (Or.inl rfl) rfl rfl rfl rfl (Nat.le_trans (Nat.le_of_ble_eq_true rfl) hd) (Nat.le_of_ble_eq_true rfl) (Nat.le_of_ble_eq_true rfl) (Nat.le_of_ble_eq_true rfl) (fun x hx => absurd hx List.not_mem_nil) (q_nmL0 _) (q_nmS0 _) rfl (pos' := 62) (st' := [.int r20]) (lI' := [(496, (q_up (I 496) j14 (r13 - x1)))]) (lE' := []) rfl rfl rfl rfl ?_
            refine q_blk 1 [] (c' := q_kc (t, r, 0, 529, 539, (q_pE ext), (q_pR rx), L) I E 64 [some (.ref 492), some (.int x1), some (.int x2), some (.int r9), some (.int r13), none] [.int r20] [(496, (q_up (I 496) j14 (r13 - x1)))] []) ok_X15_kindAt rfl q_cn ?_
            cases hf
            exact q_kri ok_X15_kindAt rfl rfl rfl (Nat.le_of_ble_eq_true rfl) (Nat.le_of_ble_eq_true rfl) ⟨rfl, q_hpe (q_pdw [496] rfl rfl) (q_pdw [] rfl rfl)⟩
        · have hf := q_in h17 hf
          refine q_blk 1 [] (c' := q_kc (t, r, 0, 529, 539, (q_pE ext), (q_pR rx), L) I E 52 [some (.ref 492), some (.int x1), some (.int x2), some (.int r9), some (.int r13), none] [.int (901 : Int32)] [(496, (q_up (I 496) j14 (r13 - x1)))] []) ok_X15_kindAt rfl q_cn ?_
          cases hf
          exact q_kri ok_X15_kindAt rfl rfl rfl (Nat.le_of_ble_eq_true rfl) (Nat.le_of_ble_eq_true rfl) ⟨rfl, q_hpe (q_pdw [496] rfl rfl) (q_pdw [] rfl rfl)⟩
      · have hf := q_in h16 hf
        refine q_blf 2 [] (a := q_kc (t, r, 0, 529, 539, (q_pE ext), (q_pR rx), L) I E 53 [some (.ref 492), some (.int x1), some (.int x2), some (.int r9), some (.int r13), none] [] [(496, (q_up (I 496) j14 (r13 - x1)))] []) (b := q_kc (t, r, 0, 529, 539, (q_pE ext), (q_pR rx), L) I E 51 [some (.ref 492), some (.int x1), some (.int x2), some (.int r9), some (.int r13), none] [] [(496, (q_up (I 496) j14 (r13 - x1)))] []) (P := (r13 - x1) ≤ (10 : Int32)) ok_X15_kindAt rfl q_cn (fun h21 => ?_) (fun h21 => ?_)
        · have hf := q_ip h21 hf
          refine q_blk 1 [] (c' := q_kc (t, r, 0, 529, 539, (q_pE ext), (q_pR rx), L) I E 54 [some (.ref 492), some (.int x1), some (.int x2), some (.int r9), some (.int r13), none] [.int r9] [(496, (q_up (I 496) j14 (r13 - x1)))] []) ok_X15_kindAt rfl q_cn ?_
          obtain ⟨r22, hr22, hf⟩ := q_bd hf
          refine q_kS (M2 := m_X15_isLetter) (As := [.int r9]) (v2 := some (.int (q_bz r22))) ok_X15_kindAt ok_X15_isLetter cs_X15_isLetter (ct_X15_isLetter_P (d := 1) (Nat.le_refl _) hr22) rfl rfl (Or.inl rfl) (Nat.le_trans (Nat.le_of_ble_eq_true rfl) hd) (Nat.le_of_ble_eq_true rfl) (Nat.le_of_ble_eq_true rfl) (Nat.le_of_ble_eq_true rfl) (fun x hx => absurd hx List.not_mem_nil) (q_nmL0 _) (q_nmS0 _) rfl (pos' := 55) (st' := [.int (q_bz r22)]) (lI' := [(496, (q_up (I 496) j14 (r13 - x1)))]) (lE' := []) rfl rfl rfl rfl ?_
          refine q_blf 0 [] (a := q_kc (t, r, 0, 529, 539, (q_pE ext), (q_pR rx), L) I E 63 [some (.ref 492), some (.int x1), some (.int x2), some (.int r9), some (.int r13), none] [] [(496, (q_up (I 496) j14 (r13 - x1)))] []) (b := q_kc (t, r, 0, 529, 539, (q_pE ext), (q_pR rx), L) I E 56 [some (.ref 492), some (.int x1), some (.int x2), some (.int r9), some (.int r13), none] [] [(496, (q_up (I 496) j14 (r13 - x1)))] []) (P := (q_bz r22) = 0) ok_X15_kindAt rfl q_cn (fun h23 => ?_) (fun h23 => ?_)
          · have hf := q_ip h23 hf
            refine q_blk 1 [] (c' := q_kc (t, r, 0, 529, 539, (q_pE ext), (q_pR rx), L) I E 64 [some (.ref 492), some (.int x1), some (.int x2), some (.int r9), some (.int r13), none] [.int (41 : Int32)] [(496, (q_up (I 496) j14 (r13 - x1)))] []) ok_X15_kindAt rfl q_cn ?_
            cases hf
            exact q_kri ok_X15_kindAt rfl rfl rfl (Nat.le_of_ble_eq_true rfl) (Nat.le_of_ble_eq_true rfl) ⟨rfl, q_hpe (q_pdw [496] rfl rfl) (q_pdw [] rfl rfl)⟩
          · have hf := q_in h23 hf
            refine q_blk 5 [] (c' := q_kc (t, r, 0, 529, 539, (q_pE ext), (q_pR rx), L) I E 61 [some (.ref 492), some (.int x1), some (.int x2), some (.int r9), some (.int r13), none] [.int (r13 - x1), .int x1, .ref 492] [(496, (q_up (I 496) j14 (r13 - x1)))] []) ok_X15_kindAt rfl q_cn ?_
            obtain ⟨r24, hr24, hf⟩ := q_bd hf
            refine q_kV (M2 := m_X15_word) (As := [.int x1, .int (r13 - x1)]) (b := 492) (v2 := some (.int r24)) ok_X15_kindAt ok_X15_word cv_X15_word (ct_X15_word_492_P (d := 9) (Nat.le_refl _) hr24) rfl rfl (Or.inl rfl) rfl rfl rfl rfl (Nat.le_trans (Nat.le_of_ble_eq_true rfl) hd) (Nat.le_of_ble_eq_true rfl) (Nat.le_of_ble_eq_true rfl) (Nat.le_of_ble_eq_true rfl) (fun x hx => absurd hx List.not_mem_nil) (q_nmL0 _) (q_nmS0 _) rfl (pos' := 62) (st' := [.int r24]) (lI' := [(496, (q_up (I 496) j14 (r13 - x1)))]) (lE' := []) rfl rfl rfl rfl ?_
            refine q_blk 1 [] (c' := q_kc (t, r, 0, 529, 539, (q_pE ext), (q_pR rx), L) I E 64 [some (.ref 492), some (.int x1), some (.int x2), some (.int r9), some (.int r13), none] [.int r24] [(496, (q_up (I 496) j14 (r13 - x1)))] []) ok_X15_kindAt rfl q_cn ?_
            cases hf
            exact q_kri ok_X15_kindAt rfl rfl rfl (Nat.le_of_ble_eq_true rfl) (Nat.le_of_ble_eq_true rfl) ⟨rfl, q_hpe (q_pdw [496] rfl rfl) (q_pdw [] rfl rfl)⟩
        · have hf := q_in h21 hf
          refine q_blk 1 [] (c' := q_kc (t, r, 0, 529, 539, (q_pE ext), (q_pR rx), L) I E 52 [some (.ref 492), some (.int x1), some (.int x2), some (.int r9), some (.int r13), none] [.int (901 : Int32)] [(496, (q_up (I 496) j14 (r13 - x1)))] []) ok_X15_kindAt rfl q_cn ?_
          cases hf
          exact q_kri ok_X15_kindAt rfl rfl rfl (Nat.le_of_ble_eq_true rfl) (Nat.le_of_ble_eq_true rfl) ⟨rfl, q_hpe (q_pdw [496] rfl rfl) (q_pdw [] rfl rfl)⟩
    · have hf := q_in h12 hf
      refine q_blk 1 [] (c' := q_kc (t, r, 0, 529, 539, (q_pE ext), (q_pR rx), L) I E 17 [some (.ref 492), some (.int x1), some (.int x2), some (.int r9), some (.int (x1 + (1 : Int32))), none] [.int r9] [] []) ok_X15_kindAt rfl q_cn ?_
      obtain ⟨r25, hr25, hf⟩ := q_bd hf
      refine q_kS (M2 := m_X15_isDigit) (As := [.int r9]) (v2 := some (.int (q_bz r25))) ok_X15_kindAt ok_X15_isDigit cs_X15_isDigit (ct_X15_isDigit_P (d := 1) (Nat.le_refl _) hr25) rfl rfl (Or.inl rfl) (Nat.le_trans (Nat.le_of_ble_eq_true rfl) hd) (Nat.le_of_ble_eq_true rfl) (Nat.le_of_ble_eq_true rfl) (Nat.le_of_ble_eq_true rfl) (fun x hx => absurd hx List.not_mem_nil) (q_nmL0 _) (q_nmS0 _) rfl (pos' := 18) (st' := [.int (q_bz r25)]) (lI' := []) (lE' := []) rfl rfl rfl rfl ?_
      refine q_blf 0 [] (a := q_kc (t, r, 0, 529, 539, (q_pE ext), (q_pR rx), L) I E 65 [some (.ref 492), some (.int x1), some (.int x2), some (.int r9), some (.int (x1 + (1 : Int32))), none] [] [] []) (b := q_kc (t, r, 0, 529, 539, (q_pE ext), (q_pR rx), L) I E 19 [some (.ref 492), some (.int x1), some (.int x2), some (.int r9), some (.int (x1 + (1 : Int32))), none] [] [] []) (P := (q_bz r25) = 0) ok_X15_kindAt rfl q_cn (fun h26 => ?_) (fun h26 => ?_)
      · have hf := q_ip h26 hf
        refine q_blf 2 [] (a := q_kc (t, r, 0, 529, 539, (q_pE ext), (q_pR rx), L) I E 71 [some (.ref 492), some (.int x1), some (.int x2), some (.int r9), some (.int (x1 + (1 : Int32))), none] [] [] []) (b := q_kc (t, r, 0, 529, 539, (q_pE ext), (q_pR rx), L) I E 68 [some (.ref 492), some (.int x1), some (.int x2), some (.int r9), some (.int (x1 + (1 : Int32))), none] [] [] []) (P := r9 = (60 : Int32)) ok_X15_kindAt rfl q_cn (fun h27 => ?_) (fun h27 => ?_)
        · have hf := q_ip h27 hf
          refine q_blk 2 [] (c' := q_kc (t, r, 0, 529, 539, (q_pE ext), (q_pR rx), L) I E 73 [some (.ref 492), some (.int x1), some (.int x2), some (.int r9), some (.int (x1 + (1 : Int32))), none] [.int (x1 + (1 : Int32)), .ref 492] [] []) ok_X15_kindAt rfl q_cn ?_
          obtain ⟨r28, hr28, hf⟩ := q_bd hf
          refine q_kV (M2 := m_X15_byteOf) (As := [.int (x1 + (1 : Int32))]) (b := 492) (v2 := some (.int r28)) ok_X15_kindAt ok_X15_byteOf cv_X15_byteOf (ct_X15_byteOf_492_P (d := 1) (Nat.le_refl _) hr28) rfl rfl (Or.inl rfl) rfl rfl rfl rfl (Nat.le_trans (Nat.le_of_ble_eq_true rfl) hd) (Nat.le_of_ble_eq_true rfl) (Nat.le_of_ble_eq_true rfl) (Nat.le_of_ble_eq_true rfl) (fun x hx => absurd hx List.not_mem_nil) (q_nmL0 _) (q_nmS0 _) rfl (pos' := 74) (st' := [.int r28]) (lI' := []) (lE' := []) rfl rfl rfl rfl ?_
          refine q_blf 1 [] (a := q_kc (t, r, 0, 529, 539, (q_pE ext), (q_pR rx), L) I E 78 [some (.ref 492), some (.int x1), some (.int x2), some (.int r9), some (.int (x1 + (1 : Int32))), none] [] [] []) (b := q_kc (t, r, 0, 529, 539, (q_pE ext), (q_pR rx), L) I E 76 [some (.ref 492), some (.int x1), some (.int x2), some (.int r9), some (.int (x1 + (1 : Int32))), none] [] [] []) (P := ¬ r28 = (61 : Int32)) ok_X15_kindAt rfl q_cn (fun h29 => ?_) (fun h29 => ?_)
          · have hf := q_ip h29 hf
            refine q_blf 6 [] (a := q_kc (t, r, 0, 529, 539, (q_pE ext), (q_pR rx), L) I E 87 [some (.ref 492), some (.int x1), some (.int x2), some (.int r9), some (.int (x1 + (1 : Int32))), some (.int (0 : Int32))] [.int x2, .ref 496] [] []) (b := q_kc (t, r, 0, 529, 539, (q_pE ext), (q_pR rx), L) I E 85 [some (.ref 492), some (.int x1), some (.int x2), some (.int r9), some (.int (x1 + (1 : Int32))), some (.int (0 : Int32))] [.int x2, .ref 496] [] []) (P := (0 : Int32) = 0) ok_X15_kindAt rfl q_cn (fun h30 => ?_) (fun h30 => ?_)
            · have hf := q_ip h30 hf
              obtain ⟨j31, hj31, hf⟩ := q_bd hf
              refine q_blf 3 [j31] (a := q_kc (t, r, 0, 529, 539, (q_pE ext), (q_pR rx), L) I E 98 [some (.ref 492), some (.int x1), some (.int x2), some (.int r9), some (.int (x1 + (1 : Int32))), some (.int (0 : Int32))] [] [(496, (q_up (I 496) j31 (1 : Int32)))] []) (b := q_kc (t, r, 0, 529, 539, (q_pE ext), (q_pR rx), L) I E 91 [some (.ref 492), some (.int x1), some (.int x2), some (.int r9), some (.int (x1 + (1 : Int32))), some (.int (0 : Int32))] [] [(496, (q_up (I 496) j31 (1 : Int32)))] []) (P := (0 : Int32) = 0) ok_X15_kindAt rfl (q_cc hj31 q_cn) (fun h32 => ?_) (fun h32 => ?_)
              · have hf := q_ip h32 hf
                refine q_blf 1 [] (a := q_kc (t, r, 0, 529, 539, (q_pE ext), (q_pR rx), L) I E 112 [some (.ref 492), some (.int x1), some (.int x2), some (.int r9), some (.int (x1 + (1 : Int32))), some (.int (0 : Int32))] [] [(496, (q_up (I 496) j31 (1 : Int32)))] []) (b := q_kc (t, r, 0, 529, 539, (q_pE ext), (q_pR rx), L) I E 100 [some (.ref 492), some (.int x1), some (.int x2), some (.int r9), some (.int (x1 + (1 : Int32))), some (.int (0 : Int32))] [] [(496, (q_up (I 496) j31 (1 : Int32)))] []) (P := r9 ≤ 0) ok_X15_kindAt rfl q_cn (fun h33 => ?_) (fun h33 => ?_)
                · have hf := q_ip h33 hf
                  refine q_blk 1 [] (c' := q_kc (t, r, 0, 529, 539, (q_pE ext), (q_pR rx), L) I E 113 [some (.ref 492), some (.int x1), some (.int x2), some (.int r9), some (.int (x1 + (1 : Int32))), some (.int (0 : Int32))] [.int (901 : Int32)] [(496, (q_up (I 496) j31 (1 : Int32)))] []) ok_X15_kindAt rfl q_cn ?_
                  cases hf
                  exact q_kri ok_X15_kindAt rfl rfl rfl (Nat.le_of_ble_eq_true rfl) (Nat.le_of_ble_eq_true rfl) ⟨rfl, q_hpe (q_pdw [496] rfl rfl) (q_pdw [] rfl rfl)⟩
                · have hf := q_in h33 hf
                  refine q_blf 2 [] (a := q_kc (t, r, 0, 529, 539, (q_pE ext), (q_pR rx), L) I E 112 [some (.ref 492), some (.int x1), some (.int x2), some (.int r9), some (.int (x1 + (1 : Int32))), some (.int (0 : Int32))] [] [(496, (q_up (I 496) j31 (1 : Int32)))] []) (b := q_kc (t, r, 0, 529, 539, (q_pE ext), (q_pR rx), L) I E 103 [some (.ref 492), some (.int x1), some (.int x2), some (.int r9), some (.int (x1 + (1 : Int32))), some (.int (0 : Int32))] [] [(496, (q_up (I 496) j31 (1 : Int32)))] []) (P := (128 : Int32) ≤ r9) ok_X15_kindAt rfl q_cn (fun h34 => ?_) (fun h34 => ?_)
                  · have hf := q_ip h34 hf
                    refine q_blk 1 [] (c' := q_kc (t, r, 0, 529, 539, (q_pE ext), (q_pR rx), L) I E 113 [some (.ref 492), some (.int x1), some (.int x2), some (.int r9), some (.int (x1 + (1 : Int32))), some (.int (0 : Int32))] [.int (901 : Int32)] [(496, (q_up (I 496) j31 (1 : Int32)))] []) ok_X15_kindAt rfl q_cn ?_
                    cases hf
                    exact q_kri ok_X15_kindAt rfl rfl rfl (Nat.le_of_ble_eq_true rfl) (Nat.le_of_ble_eq_true rfl) ⟨rfl, q_hpe (q_pdw [496] rfl rfl) (q_pdw [] rfl rfl)⟩
                  · have hf := q_in h34 hf
                    refine q_kldc (pos' := 104) ok_X15_kindAt rfl rfl rfl rfl ?_
                    refine q_blk 2 [] (c' := q_kc (t, r, 0, 529, 539, (q_pE ext), (q_pR rx), L) I E 106 [some (.ref 492), some (.int x1), some (.int x2), some (.int r9), some (.int (x1 + (1 : Int32))), some (.int (0 : Int32))] [.int ((r9.toUInt32 % 65536).toInt32), .ref 180] [(496, (q_up (I 496) j31 (1 : Int32)))] []) ok_X15_kindAt rfl q_cn ?_
                    refine q_ksidx (pos' := 107) ok_X15_kindAt rfl (Or.inl rfl) (Nat.le_trans (Nat.le_of_ble_eq_true rfl) hd) (Nat.le_of_ble_eq_true rfl) (Nat.le_of_ble_eq_true rfl) (Nat.le_of_ble_eq_true rfl) rfl ?_
                    refine q_blf 0 [] (a := q_kc (t, r, 0, 529, 539, (q_pE ext), (q_pR rx), L) I E 112 [some (.ref 492), some (.int x1), some (.int x2), some (.int r9), some (.int (x1 + (1 : Int32))), some (.int (0 : Int32))] [] [(496, (q_up (I 496) j31 (1 : Int32)))] []) (b := q_kc (t, r, 0, 529, 539, (q_pE ext), (q_pR rx), L) I E 108 [some (.ref 492), some (.int x1), some (.int x2), some (.int r9), some (.int (x1 + (1 : Int32))), some (.int (0 : Int32))] [] [(496, (q_up (I 496) j31 (1 : Int32)))] []) (P := (q_sidx (q_str 180) 0 ((r9.toUInt32 % 65536).toInt32)) < 0) ok_X15_kindAt rfl q_cn (fun h35 => ?_) (fun h35 => ?_)
                    · have hf := q_ip h35 hf
                      refine q_blk 1 [] (c' := q_kc (t, r, 0, 529, 539, (q_pE ext), (q_pR rx), L) I E 113 [some (.ref 492), some (.int x1), some (.int x2), some (.int r9), some (.int (x1 + (1 : Int32))), some (.int (0 : Int32))] [.int (901 : Int32)] [(496, (q_up (I 496) j31 (1 : Int32)))] []) ok_X15_kindAt rfl q_cn ?_
                      cases hf
                      exact q_kri ok_X15_kindAt rfl rfl rfl (Nat.le_of_ble_eq_true rfl) (Nat.le_of_ble_eq_true rfl) ⟨rfl, q_hpe (q_pdw [496] rfl rfl) (q_pdw [] rfl rfl)⟩
                    · have hf := q_in h35 hf
                      refine q_blk 4 [] (c' := q_kc (t, r, 0, 529, 539, (q_pE ext), (q_pR rx), L) I E 113 [some (.ref 492), some (.int x1), some (.int x2), some (.int r9), some (.int (x1 + (1 : Int32))), some (.int (0 : Int32))] [.int ((50 : Int32) + r9)] [(496, (q_up (I 496) j31 (1 : Int32)))] []) ok_X15_kindAt rfl q_cn ?_
                      cases hf
                      exact q_kri ok_X15_kindAt rfl rfl rfl (Nat.le_of_ble_eq_true rfl) (Nat.le_of_ble_eq_true rfl) ⟨rfl, q_hpe (q_pdw [496] rfl rfl) (q_pdw [] rfl rfl)⟩
              · have hf := q_in h32 hf
                refine q_blf 2 [] (a := q_kc (t, r, 0, 529, 539, (q_pE ext), (q_pR rx), L) I E 96 [some (.ref 492), some (.int x1), some (.int x2), some (.int r9), some (.int (x1 + (1 : Int32))), some (.int (0 : Int32))] [] [(496, (q_up (I 496) j31 (1 : Int32)))] []) (b := q_kc (t, r, 0, 529, 539, (q_pE ext), (q_pR rx), L) I E 94 [some (.ref 492), some (.int x1), some (.int x2), some (.int r9), some (.int (x1 + (1 : Int32))), some (.int (0 : Int32))] [] [(496, (q_up (I 496) j31 (1 : Int32)))] []) (P := ¬ r9 = (60 : Int32)) ok_X15_kindAt rfl q_cn (fun h36 => ?_) (fun h36 => ?_)
                · have hf := q_ip h36 hf
                  refine q_blk 1 [] (c' := q_kc (t, r, 0, 529, 539, (q_pE ext), (q_pR rx), L) I E 97 [some (.ref 492), some (.int x1), some (.int x2), some (.int r9), some (.int (x1 + (1 : Int32))), some (.int (0 : Int32))] [.int (301 : Int32)] [(496, (q_up (I 496) j31 (1 : Int32)))] []) ok_X15_kindAt rfl q_cn ?_
                  cases hf
                  exact q_kri ok_X15_kindAt rfl rfl rfl (Nat.le_of_ble_eq_true rfl) (Nat.le_of_ble_eq_true rfl) ⟨rfl, q_hpe (q_pdw [496] rfl rfl) (q_pdw [] rfl rfl)⟩
                · have hf := q_in h36 hf
                  refine q_blk 2 [] (c' := q_kc (t, r, 0, 529, 539, (q_pE ext), (q_pR rx), L) I E 97 [some (.ref 492), some (.int x1), some (.int x2), some (.int r9), some (.int (x1 + (1 : Int32))), some (.int (0 : Int32))] [.int (300 : Int32)] [(496, (q_up (I 496) j31 (1 : Int32)))] []) ok_X15_kindAt rfl q_cn ?_
                  cases hf
                  exact q_kri ok_X15_kindAt rfl rfl rfl (Nat.le_of_ble_eq_true rfl) (Nat.le_of_ble_eq_true rfl) ⟨rfl, q_hpe (q_pdw [496] rfl rfl) (q_pdw [] rfl rfl)⟩
            · have hf := q_in h30 hf
              obtain ⟨j37, hj37, hf⟩ := q_bd hf
              refine q_blf 4 [j37] (a := q_kc (t, r, 0, 529, 539, (q_pE ext), (q_pR rx), L) I E 98 [some (.ref 492), some (.int x1), some (.int x2), some (.int r9), some (.int (x1 + (1 : Int32))), some (.int (0 : Int32))] [] [(496, (q_up (I 496) j37 (2 : Int32)))] []) (b := q_kc (t, r, 0, 529, 539, (q_pE ext), (q_pR rx), L) I E 91 [some (.ref 492), some (.int x1), some (.int x2), some (.int r9), some (.int (x1 + (1 : Int32))), some (.int (0 : Int32))] [] [(496, (q_up (I 496) j37 (2 : Int32)))] []) (P := (0 : Int32) = 0) ok_X15_kindAt rfl (q_cc hj37 q_cn) (fun h38 => ?_) (fun h38 => ?_)
              · have hf := q_ip h38 hf
                refine q_blf 1 [] (a := q_kc (t, r, 0, 529, 539, (q_pE ext), (q_pR rx), L) I E 112 [some (.ref 492), some (.int x1), some (.int x2), some (.int r9), some (.int (x1 + (1 : Int32))), some (.int (0 : Int32))] [] [(496, (q_up (I 496) j37 (2 : Int32)))] []) (b := q_kc (t, r, 0, 529, 539, (q_pE ext), (q_pR rx), L) I E 100 [some (.ref 492), some (.int x1), some (.int x2), some (.int r9), some (.int (x1 + (1 : Int32))), some (.int (0 : Int32))] [] [(496, (q_up (I 496) j37 (2 : Int32)))] []) (P := r9 ≤ 0) ok_X15_kindAt rfl q_cn (fun h39 => ?_) (fun h39 => ?_)
                · have hf := q_ip h39 hf
                  refine q_blk 1 [] (c' := q_kc (t, r, 0, 529, 539, (q_pE ext), (q_pR rx), L) I E 113 [some (.ref 492), some (.int x1), some (.int x2), some (.int r9), some (.int (x1 + (1 : Int32))), some (.int (0 : Int32))] [.int (901 : Int32)] [(496, (q_up (I 496) j37 (2 : Int32)))] []) ok_X15_kindAt rfl q_cn ?_
                  cases hf
                  exact q_kri ok_X15_kindAt rfl rfl rfl (Nat.le_of_ble_eq_true rfl) (Nat.le_of_ble_eq_true rfl) ⟨rfl, q_hpe (q_pdw [496] rfl rfl) (q_pdw [] rfl rfl)⟩
                · have hf := q_in h39 hf
                  refine q_blf 2 [] (a := q_kc (t, r, 0, 529, 539, (q_pE ext), (q_pR rx), L) I E 112 [some (.ref 492), some (.int x1), some (.int x2), some (.int r9), some (.int (x1 + (1 : Int32))), some (.int (0 : Int32))] [] [(496, (q_up (I 496) j37 (2 : Int32)))] []) (b := q_kc (t, r, 0, 529, 539, (q_pE ext), (q_pR rx), L) I E 103 [some (.ref 492), some (.int x1), some (.int x2), some (.int r9), some (.int (x1 + (1 : Int32))), some (.int (0 : Int32))] [] [(496, (q_up (I 496) j37 (2 : Int32)))] []) (P := (128 : Int32) ≤ r9) ok_X15_kindAt rfl q_cn (fun h40 => ?_) (fun h40 => ?_)
                  · have hf := q_ip h40 hf
                    refine q_blk 1 [] (c' := q_kc (t, r, 0, 529, 539, (q_pE ext), (q_pR rx), L) I E 113 [some (.ref 492), some (.int x1), some (.int x2), some (.int r9), some (.int (x1 + (1 : Int32))), some (.int (0 : Int32))] [.int (901 : Int32)] [(496, (q_up (I 496) j37 (2 : Int32)))] []) ok_X15_kindAt rfl q_cn ?_
                    cases hf
                    exact q_kri ok_X15_kindAt rfl rfl rfl (Nat.le_of_ble_eq_true rfl) (Nat.le_of_ble_eq_true rfl) ⟨rfl, q_hpe (q_pdw [496] rfl rfl) (q_pdw [] rfl rfl)⟩
                  · have hf := q_in h40 hf
                    refine q_kldc (pos' := 104) ok_X15_kindAt rfl rfl rfl rfl ?_
                    refine q_blk 2 [] (c' := q_kc (t, r, 0, 529, 539, (q_pE ext), (q_pR rx), L) I E 106 [some (.ref 492), some (.int x1), some (.int x2), some (.int r9), some (.int (x1 + (1 : Int32))), some (.int (0 : Int32))] [.int ((r9.toUInt32 % 65536).toInt32), .ref 180] [(496, (q_up (I 496) j37 (2 : Int32)))] []) ok_X15_kindAt rfl q_cn ?_
                    refine q_ksidx (pos' := 107) ok_X15_kindAt rfl (Or.inl rfl) (Nat.le_trans (Nat.le_of_ble_eq_true rfl) hd) (Nat.le_of_ble_eq_true rfl) (Nat.le_of_ble_eq_true rfl) (Nat.le_of_ble_eq_true rfl) rfl ?_
                    refine q_blf 0 [] (a := q_kc (t, r, 0, 529, 539, (q_pE ext), (q_pR rx), L) I E 112 [some (.ref 492), some (.int x1), some (.int x2), some (.int r9), some (.int (x1 + (1 : Int32))), some (.int (0 : Int32))] [] [(496, (q_up (I 496) j37 (2 : Int32)))] []) (b := q_kc (t, r, 0, 529, 539, (q_pE ext), (q_pR rx), L) I E 108 [some (.ref 492), some (.int x1), some (.int x2), some (.int r9), some (.int (x1 + (1 : Int32))), some (.int (0 : Int32))] [] [(496, (q_up (I 496) j37 (2 : Int32)))] []) (P := (q_sidx (q_str 180) 0 ((r9.toUInt32 % 65536).toInt32)) < 0) ok_X15_kindAt rfl q_cn (fun h41 => ?_) (fun h41 => ?_)
                    · have hf := q_ip h41 hf
                      refine q_blk 1 [] (c' := q_kc (t, r, 0, 529, 539, (q_pE ext), (q_pR rx), L) I E 113 [some (.ref 492), some (.int x1), some (.int x2), some (.int r9), some (.int (x1 + (1 : Int32))), some (.int (0 : Int32))] [.int (901 : Int32)] [(496, (q_up (I 496) j37 (2 : Int32)))] []) ok_X15_kindAt rfl q_cn ?_
                      cases hf
                      exact q_kri ok_X15_kindAt rfl rfl rfl (Nat.le_of_ble_eq_true rfl) (Nat.le_of_ble_eq_true rfl) ⟨rfl, q_hpe (q_pdw [496] rfl rfl) (q_pdw [] rfl rfl)⟩
                    · have hf := q_in h41 hf
                      refine q_blk 4 [] (c' := q_kc (t, r, 0, 529, 539, (q_pE ext), (q_pR rx), L) I E 113 [some (.ref 492), some (.int x1), some (.int x2), some (.int r9), some (.int (x1 + (1 : Int32))), some (.int (0 : Int32))] [.int ((50 : Int32) + r9)] [(496, (q_up (I 496) j37 (2 : Int32)))] []) ok_X15_kindAt rfl q_cn ?_
                      cases hf
                      exact q_kri ok_X15_kindAt rfl rfl rfl (Nat.le_of_ble_eq_true rfl) (Nat.le_of_ble_eq_true rfl) ⟨rfl, q_hpe (q_pdw [496] rfl rfl) (q_pdw [] rfl rfl)⟩
              · have hf := q_in h38 hf
                refine q_blf 2 [] (a := q_kc (t, r, 0, 529, 539, (q_pE ext), (q_pR rx), L) I E 96 [some (.ref 492), some (.int x1), some (.int x2), some (.int r9), some (.int (x1 + (1 : Int32))), some (.int (0 : Int32))] [] [(496, (q_up (I 496) j37 (2 : Int32)))] []) (b := q_kc (t, r, 0, 529, 539, (q_pE ext), (q_pR rx), L) I E 94 [some (.ref 492), some (.int x1), some (.int x2), some (.int r9), some (.int (x1 + (1 : Int32))), some (.int (0 : Int32))] [] [(496, (q_up (I 496) j37 (2 : Int32)))] []) (P := ¬ r9 = (60 : Int32)) ok_X15_kindAt rfl q_cn (fun h42 => ?_) (fun h42 => ?_)
                · have hf := q_ip h42 hf
                  refine q_blk 1 [] (c' := q_kc (t, r, 0, 529, 539, (q_pE ext), (q_pR rx), L) I E 97 [some (.ref 492), some (.int x1), some (.int x2), some (.int r9), some (.int (x1 + (1 : Int32))), some (.int (0 : Int32))] [.int (301 : Int32)] [(496, (q_up (I 496) j37 (2 : Int32)))] []) ok_X15_kindAt rfl q_cn ?_
                  cases hf
                  exact q_kri ok_X15_kindAt rfl rfl rfl (Nat.le_of_ble_eq_true rfl) (Nat.le_of_ble_eq_true rfl) ⟨rfl, q_hpe (q_pdw [496] rfl rfl) (q_pdw [] rfl rfl)⟩
                · have hf := q_in h42 hf
                  refine q_blk 2 [] (c' := q_kc (t, r, 0, 529, 539, (q_pE ext), (q_pR rx), L) I E 97 [some (.ref 492), some (.int x1), some (.int x2), some (.int r9), some (.int (x1 + (1 : Int32))), some (.int (0 : Int32))] [.int (300 : Int32)] [(496, (q_up (I 496) j37 (2 : Int32)))] []) ok_X15_kindAt rfl q_cn ?_
                  cases hf
                  exact q_kri ok_X15_kindAt rfl rfl rfl (Nat.le_of_ble_eq_true rfl) (Nat.le_of_ble_eq_true rfl) ⟨rfl, q_hpe (q_pdw [496] rfl rfl) (q_pdw [] rfl rfl)⟩
          · have hf := q_in h29 hf
            refine q_blf 7 [] (a := q_kc (t, r, 0, 529, 539, (q_pE ext), (q_pR rx), L) I E 87 [some (.ref 492), some (.int x1), some (.int x2), some (.int r9), some (.int (x1 + (1 : Int32))), some (.int (1 : Int32))] [.int x2, .ref 496] [] []) (b := q_kc (t, r, 0, 529, 539, (q_pE ext), (q_pR rx), L) I E 85 [some (.ref 492), some (.int x1), some (.int x2), some (.int r9), some (.int (x1 + (1 : Int32))), some (.int (1 : Int32))] [.int x2, .ref 496] [] []) (P := (1 : Int32) = 0) ok_X15_kindAt rfl q_cn (fun h43 => ?_) (fun h43 => ?_)
            · have hf := q_ip h43 hf
              obtain ⟨j44, hj44, hf⟩ := q_bd hf
              refine q_blf 3 [j44] (a := q_kc (t, r, 0, 529, 539, (q_pE ext), (q_pR rx), L) I E 98 [some (.ref 492), some (.int x1), some (.int x2), some (.int r9), some (.int (x1 + (1 : Int32))), some (.int (1 : Int32))] [] [(496, (q_up (I 496) j44 (1 : Int32)))] []) (b := q_kc (t, r, 0, 529, 539, (q_pE ext), (q_pR rx), L) I E 91 [some (.ref 492), some (.int x1), some (.int x2), some (.int r9), some (.int (x1 + (1 : Int32))), some (.int (1 : Int32))] [] [(496, (q_up (I 496) j44 (1 : Int32)))] []) (P := (1 : Int32) = 0) ok_X15_kindAt rfl (q_cc hj44 q_cn) (fun h45 => ?_) (fun h45 => ?_)
              · have hf := q_ip h45 hf
                refine q_blf 1 [] (a := q_kc (t, r, 0, 529, 539, (q_pE ext), (q_pR rx), L) I E 112 [some (.ref 492), some (.int x1), some (.int x2), some (.int r9), some (.int (x1 + (1 : Int32))), some (.int (1 : Int32))] [] [(496, (q_up (I 496) j44 (1 : Int32)))] []) (b := q_kc (t, r, 0, 529, 539, (q_pE ext), (q_pR rx), L) I E 100 [some (.ref 492), some (.int x1), some (.int x2), some (.int r9), some (.int (x1 + (1 : Int32))), some (.int (1 : Int32))] [] [(496, (q_up (I 496) j44 (1 : Int32)))] []) (P := r9 ≤ 0) ok_X15_kindAt rfl q_cn (fun h46 => ?_) (fun h46 => ?_)
                · have hf := q_ip h46 hf
                  refine q_blk 1 [] (c' := q_kc (t, r, 0, 529, 539, (q_pE ext), (q_pR rx), L) I E 113 [some (.ref 492), some (.int x1), some (.int x2), some (.int r9), some (.int (x1 + (1 : Int32))), some (.int (1 : Int32))] [.int (901 : Int32)] [(496, (q_up (I 496) j44 (1 : Int32)))] []) ok_X15_kindAt rfl q_cn ?_
                  cases hf
                  exact q_kri ok_X15_kindAt rfl rfl rfl (Nat.le_of_ble_eq_true rfl) (Nat.le_of_ble_eq_true rfl) ⟨rfl, q_hpe (q_pdw [496] rfl rfl) (q_pdw [] rfl rfl)⟩
                · have hf := q_in h46 hf
                  refine q_blf 2 [] (a := q_kc (t, r, 0, 529, 539, (q_pE ext), (q_pR rx), L) I E 112 [some (.ref 492), some (.int x1), some (.int x2), some (.int r9), some (.int (x1 + (1 : Int32))), some (.int (1 : Int32))] [] [(496, (q_up (I 496) j44 (1 : Int32)))] []) (b := q_kc (t, r, 0, 529, 539, (q_pE ext), (q_pR rx), L) I E 103 [some (.ref 492), some (.int x1), some (.int x2), some (.int r9), some (.int (x1 + (1 : Int32))), some (.int (1 : Int32))] [] [(496, (q_up (I 496) j44 (1 : Int32)))] []) (P := (128 : Int32) ≤ r9) ok_X15_kindAt rfl q_cn (fun h47 => ?_) (fun h47 => ?_)
                  · have hf := q_ip h47 hf
                    refine q_blk 1 [] (c' := q_kc (t, r, 0, 529, 539, (q_pE ext), (q_pR rx), L) I E 113 [some (.ref 492), some (.int x1), some (.int x2), some (.int r9), some (.int (x1 + (1 : Int32))), some (.int (1 : Int32))] [.int (901 : Int32)] [(496, (q_up (I 496) j44 (1 : Int32)))] []) ok_X15_kindAt rfl q_cn ?_
                    cases hf
                    exact q_kri ok_X15_kindAt rfl rfl rfl (Nat.le_of_ble_eq_true rfl) (Nat.le_of_ble_eq_true rfl) ⟨rfl, q_hpe (q_pdw [496] rfl rfl) (q_pdw [] rfl rfl)⟩
                  · have hf := q_in h47 hf
                    refine q_kldc (pos' := 104) ok_X15_kindAt rfl rfl rfl rfl ?_
                    refine q_blk 2 [] (c' := q_kc (t, r, 0, 529, 539, (q_pE ext), (q_pR rx), L) I E 106 [some (.ref 492), some (.int x1), some (.int x2), some (.int r9), some (.int (x1 + (1 : Int32))), some (.int (1 : Int32))] [.int ((r9.toUInt32 % 65536).toInt32), .ref 180] [(496, (q_up (I 496) j44 (1 : Int32)))] []) ok_X15_kindAt rfl q_cn ?_
                    refine q_ksidx (pos' := 107) ok_X15_kindAt rfl (Or.inl rfl) (Nat.le_trans (Nat.le_of_ble_eq_true rfl) hd) (Nat.le_of_ble_eq_true rfl) (Nat.le_of_ble_eq_true rfl) (Nat.le_of_ble_eq_true rfl) rfl ?_
                    refine q_blf 0 [] (a := q_kc (t, r, 0, 529, 539, (q_pE ext), (q_pR rx), L) I E 112 [some (.ref 492), some (.int x1), some (.int x2), some (.int r9), some (.int (x1 + (1 : Int32))), some (.int (1 : Int32))] [] [(496, (q_up (I 496) j44 (1 : Int32)))] []) (b := q_kc (t, r, 0, 529, 539, (q_pE ext), (q_pR rx), L) I E 108 [some (.ref 492), some (.int x1), some (.int x2), some (.int r9), some (.int (x1 + (1 : Int32))), some (.int (1 : Int32))] [] [(496, (q_up (I 496) j44 (1 : Int32)))] []) (P := (q_sidx (q_str 180) 0 ((r9.toUInt32 % 65536).toInt32)) < 0) ok_X15_kindAt rfl q_cn (fun h48 => ?_) (fun h48 => ?_)
                    · have hf := q_ip h48 hf
                      refine q_blk 1 [] (c' := q_kc (t, r, 0, 529, 539, (q_pE ext), (q_pR rx), L) I E 113 [some (.ref 492), some (.int x1), some (.int x2), some (.int r9), some (.int (x1 + (1 : Int32))), some (.int (1 : Int32))] [.int (901 : Int32)] [(496, (q_up (I 496) j44 (1 : Int32)))] []) ok_X15_kindAt rfl q_cn ?_
                      cases hf
                      exact q_kri ok_X15_kindAt rfl rfl rfl (Nat.le_of_ble_eq_true rfl) (Nat.le_of_ble_eq_true rfl) ⟨rfl, q_hpe (q_pdw [496] rfl rfl) (q_pdw [] rfl rfl)⟩
                    · have hf := q_in h48 hf
                      refine q_blk 4 [] (c' := q_kc (t, r, 0, 529, 539, (q_pE ext), (q_pR rx), L) I E 113 [some (.ref 492), some (.int x1), some (.int x2), some (.int r9), some (.int (x1 + (1 : Int32))), some (.int (1 : Int32))] [.int ((50 : Int32) + r9)] [(496, (q_up (I 496) j44 (1 : Int32)))] []) ok_X15_kindAt rfl q_cn ?_
                      cases hf
                      exact q_kri ok_X15_kindAt rfl rfl rfl (Nat.le_of_ble_eq_true rfl) (Nat.le_of_ble_eq_true rfl) ⟨rfl, q_hpe (q_pdw [496] rfl rfl) (q_pdw [] rfl rfl)⟩
              · have hf := q_in h45 hf
                refine q_blf 2 [] (a := q_kc (t, r, 0, 529, 539, (q_pE ext), (q_pR rx), L) I E 96 [some (.ref 492), some (.int x1), some (.int x2), some (.int r9), some (.int (x1 + (1 : Int32))), some (.int (1 : Int32))] [] [(496, (q_up (I 496) j44 (1 : Int32)))] []) (b := q_kc (t, r, 0, 529, 539, (q_pE ext), (q_pR rx), L) I E 94 [some (.ref 492), some (.int x1), some (.int x2), some (.int r9), some (.int (x1 + (1 : Int32))), some (.int (1 : Int32))] [] [(496, (q_up (I 496) j44 (1 : Int32)))] []) (P := ¬ r9 = (60 : Int32)) ok_X15_kindAt rfl q_cn (fun h49 => ?_) (fun h49 => ?_)
                · have hf := q_ip h49 hf
                  refine q_blk 1 [] (c' := q_kc (t, r, 0, 529, 539, (q_pE ext), (q_pR rx), L) I E 97 [some (.ref 492), some (.int x1), some (.int x2), some (.int r9), some (.int (x1 + (1 : Int32))), some (.int (1 : Int32))] [.int (301 : Int32)] [(496, (q_up (I 496) j44 (1 : Int32)))] []) ok_X15_kindAt rfl q_cn ?_
                  cases hf
                  exact q_kri ok_X15_kindAt rfl rfl rfl (Nat.le_of_ble_eq_true rfl) (Nat.le_of_ble_eq_true rfl) ⟨rfl, q_hpe (q_pdw [496] rfl rfl) (q_pdw [] rfl rfl)⟩
                · have hf := q_in h49 hf
                  refine q_blk 2 [] (c' := q_kc (t, r, 0, 529, 539, (q_pE ext), (q_pR rx), L) I E 97 [some (.ref 492), some (.int x1), some (.int x2), some (.int r9), some (.int (x1 + (1 : Int32))), some (.int (1 : Int32))] [.int (300 : Int32)] [(496, (q_up (I 496) j44 (1 : Int32)))] []) ok_X15_kindAt rfl q_cn ?_
                  cases hf
                  exact q_kri ok_X15_kindAt rfl rfl rfl (Nat.le_of_ble_eq_true rfl) (Nat.le_of_ble_eq_true rfl) ⟨rfl, q_hpe (q_pdw [496] rfl rfl) (q_pdw [] rfl rfl)⟩
            · have hf := q_in h43 hf
              obtain ⟨j50, hj50, hf⟩ := q_bd hf
              refine q_blf 4 [j50] (a := q_kc (t, r, 0, 529, 539, (q_pE ext), (q_pR rx), L) I E 98 [some (.ref 492), some (.int x1), some (.int x2), some (.int r9), some (.int (x1 + (1 : Int32))), some (.int (1 : Int32))] [] [(496, (q_up (I 496) j50 (2 : Int32)))] []) (b := q_kc (t, r, 0, 529, 539, (q_pE ext), (q_pR rx), L) I E 91 [some (.ref 492), some (.int x1), some (.int x2), some (.int r9), some (.int (x1 + (1 : Int32))), some (.int (1 : Int32))] [] [(496, (q_up (I 496) j50 (2 : Int32)))] []) (P := (1 : Int32) = 0) ok_X15_kindAt rfl (q_cc hj50 q_cn) (fun h51 => ?_) (fun h51 => ?_)
              · have hf := q_ip h51 hf
                refine q_blf 1 [] (a := q_kc (t, r, 0, 529, 539, (q_pE ext), (q_pR rx), L) I E 112 [some (.ref 492), some (.int x1), some (.int x2), some (.int r9), some (.int (x1 + (1 : Int32))), some (.int (1 : Int32))] [] [(496, (q_up (I 496) j50 (2 : Int32)))] []) (b := q_kc (t, r, 0, 529, 539, (q_pE ext), (q_pR rx), L) I E 100 [some (.ref 492), some (.int x1), some (.int x2), some (.int r9), some (.int (x1 + (1 : Int32))), some (.int (1 : Int32))] [] [(496, (q_up (I 496) j50 (2 : Int32)))] []) (P := r9 ≤ 0) ok_X15_kindAt rfl q_cn (fun h52 => ?_) (fun h52 => ?_)
                · have hf := q_ip h52 hf
                  refine q_blk 1 [] (c' := q_kc (t, r, 0, 529, 539, (q_pE ext), (q_pR rx), L) I E 113 [some (.ref 492), some (.int x1), some (.int x2), some (.int r9), some (.int (x1 + (1 : Int32))), some (.int (1 : Int32))] [.int (901 : Int32)] [(496, (q_up (I 496) j50 (2 : Int32)))] []) ok_X15_kindAt rfl q_cn ?_
                  cases hf
                  exact q_kri ok_X15_kindAt rfl rfl rfl (Nat.le_of_ble_eq_true rfl) (Nat.le_of_ble_eq_true rfl) ⟨rfl, q_hpe (q_pdw [496] rfl rfl) (q_pdw [] rfl rfl)⟩
                · have hf := q_in h52 hf
                  refine q_blf 2 [] (a := q_kc (t, r, 0, 529, 539, (q_pE ext), (q_pR rx), L) I E 112 [some (.ref 492), some (.int x1), some (.int x2), some (.int r9), some (.int (x1 + (1 : Int32))), some (.int (1 : Int32))] [] [(496, (q_up (I 496) j50 (2 : Int32)))] []) (b := q_kc (t, r, 0, 529, 539, (q_pE ext), (q_pR rx), L) I E 103 [some (.ref 492), some (.int x1), some (.int x2), some (.int r9), some (.int (x1 + (1 : Int32))), some (.int (1 : Int32))] [] [(496, (q_up (I 496) j50 (2 : Int32)))] []) (P := (128 : Int32) ≤ r9) ok_X15_kindAt rfl q_cn (fun h53 => ?_) (fun h53 => ?_)
                  · have hf := q_ip h53 hf
                    refine q_blk 1 [] (c' := q_kc (t, r, 0, 529, 539, (q_pE ext), (q_pR rx), L) I E 113 [some (.ref 492), some (.int x1), some (.int x2), some (.int r9), some (.int (x1 + (1 : Int32))), some (.int (1 : Int32))] [.int (901 : Int32)] [(496, (q_up (I 496) j50 (2 : Int32)))] []) ok_X15_kindAt rfl q_cn ?_
                    cases hf
                    exact q_kri ok_X15_kindAt rfl rfl rfl (Nat.le_of_ble_eq_true rfl) (Nat.le_of_ble_eq_true rfl) ⟨rfl, q_hpe (q_pdw [496] rfl rfl) (q_pdw [] rfl rfl)⟩
                  · have hf := q_in h53 hf
                    refine q_kldc (pos' := 104) ok_X15_kindAt rfl rfl rfl rfl ?_
                    refine q_blk 2 [] (c' := q_kc (t, r, 0, 529, 539, (q_pE ext), (q_pR rx), L) I E 106 [some (.ref 492), some (.int x1), some (.int x2), some (.int r9), some (.int (x1 + (1 : Int32))), some (.int (1 : Int32))] [.int ((r9.toUInt32 % 65536).toInt32), .ref 180] [(496, (q_up (I 496) j50 (2 : Int32)))] []) ok_X15_kindAt rfl q_cn ?_
                    refine q_ksidx (pos' := 107) ok_X15_kindAt rfl (Or.inl rfl) (Nat.le_trans (Nat.le_of_ble_eq_true rfl) hd) (Nat.le_of_ble_eq_true rfl) (Nat.le_of_ble_eq_true rfl) (Nat.le_of_ble_eq_true rfl) rfl ?_
                    refine q_blf 0 [] (a := q_kc (t, r, 0, 529, 539, (q_pE ext), (q_pR rx), L) I E 112 [some (.ref 492), some (.int x1), some (.int x2), some (.int r9), some (.int (x1 + (1 : Int32))), some (.int (1 : Int32))] [] [(496, (q_up (I 496) j50 (2 : Int32)))] []) (b := q_kc (t, r, 0, 529, 539, (q_pE ext), (q_pR rx), L) I E 108 [some (.ref 492), some (.int x1), some (.int x2), some (.int r9), some (.int (x1 + (1 : Int32))), some (.int (1 : Int32))] [] [(496, (q_up (I 496) j50 (2 : Int32)))] []) (P := (q_sidx (q_str 180) 0 ((r9.toUInt32 % 65536).toInt32)) < 0) ok_X15_kindAt rfl q_cn (fun h54 => ?_) (fun h54 => ?_)
                    · have hf := q_ip h54 hf
                      refine q_blk 1 [] (c' := q_kc (t, r, 0, 529, 539, (q_pE ext), (q_pR rx), L) I E 113 [some (.ref 492), some (.int x1), some (.int x2), some (.int r9), some (.int (x1 + (1 : Int32))), some (.int (1 : Int32))] [.int (901 : Int32)] [(496, (q_up (I 496) j50 (2 : Int32)))] []) ok_X15_kindAt rfl q_cn ?_
                      cases hf
                      exact q_kri ok_X15_kindAt rfl rfl rfl (Nat.le_of_ble_eq_true rfl) (Nat.le_of_ble_eq_true rfl) ⟨rfl, q_hpe (q_pdw [496] rfl rfl) (q_pdw [] rfl rfl)⟩
                    · have hf := q_in h54 hf
                      refine q_blk 4 [] (c' := q_kc (t, r, 0, 529, 539, (q_pE ext), (q_pR rx), L) I E 113 [some (.ref 492), some (.int x1), some (.int x2), some (.int r9), some (.int (x1 + (1 : Int32))), some (.int (1 : Int32))] [.int ((50 : Int32) + r9)] [(496, (q_up (I 496) j50 (2 : Int32)))] []) ok_X15_kindAt rfl q_cn ?_
                      cases hf
                      exact q_kri ok_X15_kindAt rfl rfl rfl (Nat.le_of_ble_eq_true rfl) (Nat.le_of_ble_eq_true rfl) ⟨rfl, q_hpe (q_pdw [496] rfl rfl) (q_pdw [] rfl rfl)⟩
              · have hf := q_in h51 hf
                refine q_blf 2 [] (a := q_kc (t, r, 0, 529, 539, (q_pE ext), (q_pR rx), L) I E 96 [some (.ref 492), some (.int x1), some (.int x2), some (.int r9), some (.int (x1 + (1 : Int32))), some (.int (1 : Int32))] [] [(496, (q_up (I 496) j50 (2 : Int32)))] []) (b := q_kc (t, r, 0, 529, 539, (q_pE ext), (q_pR rx), L) I E 94 [some (.ref 492), some (.int x1), some (.int x2), some (.int r9), some (.int (x1 + (1 : Int32))), some (.int (1 : Int32))] [] [(496, (q_up (I 496) j50 (2 : Int32)))] []) (P := ¬ r9 = (60 : Int32)) ok_X15_kindAt rfl q_cn (fun h55 => ?_) (fun h55 => ?_)
                · have hf := q_ip h55 hf
                  refine q_blk 1 [] (c' := q_kc (t, r, 0, 529, 539, (q_pE ext), (q_pR rx), L) I E 97 [some (.ref 492), some (.int x1), some (.int x2), some (.int r9), some (.int (x1 + (1 : Int32))), some (.int (1 : Int32))] [.int (301 : Int32)] [(496, (q_up (I 496) j50 (2 : Int32)))] []) ok_X15_kindAt rfl q_cn ?_
                  cases hf
                  exact q_kri ok_X15_kindAt rfl rfl rfl (Nat.le_of_ble_eq_true rfl) (Nat.le_of_ble_eq_true rfl) ⟨rfl, q_hpe (q_pdw [496] rfl rfl) (q_pdw [] rfl rfl)⟩
                · have hf := q_in h55 hf
                  refine q_blk 2 [] (c' := q_kc (t, r, 0, 529, 539, (q_pE ext), (q_pR rx), L) I E 97 [some (.ref 492), some (.int x1), some (.int x2), some (.int r9), some (.int (x1 + (1 : Int32))), some (.int (1 : Int32))] [.int (300 : Int32)] [(496, (q_up (I 496) j50 (2 : Int32)))] []) ok_X15_kindAt rfl q_cn ?_
                  cases hf
                  exact q_kri ok_X15_kindAt rfl rfl rfl (Nat.le_of_ble_eq_true rfl) (Nat.le_of_ble_eq_true rfl) ⟨rfl, q_hpe (q_pdw [496] rfl rfl) (q_pdw [] rfl rfl)⟩
        · have hf := q_in h27 hf
          refine q_blf 2 [] (a := q_kc (t, r, 0, 529, 539, (q_pE ext), (q_pR rx), L) I E 78 [some (.ref 492), some (.int x1), some (.int x2), some (.int r9), some (.int (x1 + (1 : Int32))), none] [] [] []) (b := q_kc (t, r, 0, 529, 539, (q_pE ext), (q_pR rx), L) I E 71 [some (.ref 492), some (.int x1), some (.int x2), some (.int r9), some (.int (x1 + (1 : Int32))), none] [] [] []) (P := ¬ r9 = (62 : Int32)) ok_X15_kindAt rfl q_cn (fun h56 => ?_) (fun h56 => ?_)
          · have hf := q_ip h56 hf
            refine q_blf 6 [] (a := q_kc (t, r, 0, 529, 539, (q_pE ext), (q_pR rx), L) I E 87 [some (.ref 492), some (.int x1), some (.int x2), some (.int r9), some (.int (x1 + (1 : Int32))), some (.int (0 : Int32))] [.int x2, .ref 496] [] []) (b := q_kc (t, r, 0, 529, 539, (q_pE ext), (q_pR rx), L) I E 85 [some (.ref 492), some (.int x1), some (.int x2), some (.int r9), some (.int (x1 + (1 : Int32))), some (.int (0 : Int32))] [.int x2, .ref 496] [] []) (P := (0 : Int32) = 0) ok_X15_kindAt rfl q_cn (fun h57 => ?_) (fun h57 => ?_)
            · have hf := q_ip h57 hf
              obtain ⟨j58, hj58, hf⟩ := q_bd hf
              refine q_blf 3 [j58] (a := q_kc (t, r, 0, 529, 539, (q_pE ext), (q_pR rx), L) I E 98 [some (.ref 492), some (.int x1), some (.int x2), some (.int r9), some (.int (x1 + (1 : Int32))), some (.int (0 : Int32))] [] [(496, (q_up (I 496) j58 (1 : Int32)))] []) (b := q_kc (t, r, 0, 529, 539, (q_pE ext), (q_pR rx), L) I E 91 [some (.ref 492), some (.int x1), some (.int x2), some (.int r9), some (.int (x1 + (1 : Int32))), some (.int (0 : Int32))] [] [(496, (q_up (I 496) j58 (1 : Int32)))] []) (P := (0 : Int32) = 0) ok_X15_kindAt rfl (q_cc hj58 q_cn) (fun h59 => ?_) (fun h59 => ?_)
              · have hf := q_ip h59 hf
                refine q_blf 1 [] (a := q_kc (t, r, 0, 529, 539, (q_pE ext), (q_pR rx), L) I E 112 [some (.ref 492), some (.int x1), some (.int x2), some (.int r9), some (.int (x1 + (1 : Int32))), some (.int (0 : Int32))] [] [(496, (q_up (I 496) j58 (1 : Int32)))] []) (b := q_kc (t, r, 0, 529, 539, (q_pE ext), (q_pR rx), L) I E 100 [some (.ref 492), some (.int x1), some (.int x2), some (.int r9), some (.int (x1 + (1 : Int32))), some (.int (0 : Int32))] [] [(496, (q_up (I 496) j58 (1 : Int32)))] []) (P := r9 ≤ 0) ok_X15_kindAt rfl q_cn (fun h60 => ?_) (fun h60 => ?_)
                · have hf := q_ip h60 hf
                  refine q_blk 1 [] (c' := q_kc (t, r, 0, 529, 539, (q_pE ext), (q_pR rx), L) I E 113 [some (.ref 492), some (.int x1), some (.int x2), some (.int r9), some (.int (x1 + (1 : Int32))), some (.int (0 : Int32))] [.int (901 : Int32)] [(496, (q_up (I 496) j58 (1 : Int32)))] []) ok_X15_kindAt rfl q_cn ?_
                  cases hf
                  exact q_kri ok_X15_kindAt rfl rfl rfl (Nat.le_of_ble_eq_true rfl) (Nat.le_of_ble_eq_true rfl) ⟨rfl, q_hpe (q_pdw [496] rfl rfl) (q_pdw [] rfl rfl)⟩
                · have hf := q_in h60 hf
                  refine q_blf 2 [] (a := q_kc (t, r, 0, 529, 539, (q_pE ext), (q_pR rx), L) I E 112 [some (.ref 492), some (.int x1), some (.int x2), some (.int r9), some (.int (x1 + (1 : Int32))), some (.int (0 : Int32))] [] [(496, (q_up (I 496) j58 (1 : Int32)))] []) (b := q_kc (t, r, 0, 529, 539, (q_pE ext), (q_pR rx), L) I E 103 [some (.ref 492), some (.int x1), some (.int x2), some (.int r9), some (.int (x1 + (1 : Int32))), some (.int (0 : Int32))] [] [(496, (q_up (I 496) j58 (1 : Int32)))] []) (P := (128 : Int32) ≤ r9) ok_X15_kindAt rfl q_cn (fun h61 => ?_) (fun h61 => ?_)
                  · have hf := q_ip h61 hf
                    refine q_blk 1 [] (c' := q_kc (t, r, 0, 529, 539, (q_pE ext), (q_pR rx), L) I E 113 [some (.ref 492), some (.int x1), some (.int x2), some (.int r9), some (.int (x1 + (1 : Int32))), some (.int (0 : Int32))] [.int (901 : Int32)] [(496, (q_up (I 496) j58 (1 : Int32)))] []) ok_X15_kindAt rfl q_cn ?_
                    cases hf
                    exact q_kri ok_X15_kindAt rfl rfl rfl (Nat.le_of_ble_eq_true rfl) (Nat.le_of_ble_eq_true rfl) ⟨rfl, q_hpe (q_pdw [496] rfl rfl) (q_pdw [] rfl rfl)⟩
                  · have hf := q_in h61 hf
                    refine q_kldc (pos' := 104) ok_X15_kindAt rfl rfl rfl rfl ?_
                    refine q_blk 2 [] (c' := q_kc (t, r, 0, 529, 539, (q_pE ext), (q_pR rx), L) I E 106 [some (.ref 492), some (.int x1), some (.int x2), some (.int r9), some (.int (x1 + (1 : Int32))), some (.int (0 : Int32))] [.int ((r9.toUInt32 % 65536).toInt32), .ref 180] [(496, (q_up (I 496) j58 (1 : Int32)))] []) ok_X15_kindAt rfl q_cn ?_
                    refine q_ksidx (pos' := 107) ok_X15_kindAt rfl (Or.inl rfl) (Nat.le_trans (Nat.le_of_ble_eq_true rfl) hd) (Nat.le_of_ble_eq_true rfl) (Nat.le_of_ble_eq_true rfl) (Nat.le_of_ble_eq_true rfl) rfl ?_
                    refine q_blf 0 [] (a := q_kc (t, r, 0, 529, 539, (q_pE ext), (q_pR rx), L) I E 112 [some (.ref 492), some (.int x1), some (.int x2), some (.int r9), some (.int (x1 + (1 : Int32))), some (.int (0 : Int32))] [] [(496, (q_up (I 496) j58 (1 : Int32)))] []) (b := q_kc (t, r, 0, 529, 539, (q_pE ext), (q_pR rx), L) I E 108 [some (.ref 492), some (.int x1), some (.int x2), some (.int r9), some (.int (x1 + (1 : Int32))), some (.int (0 : Int32))] [] [(496, (q_up (I 496) j58 (1 : Int32)))] []) (P := (q_sidx (q_str 180) 0 ((r9.toUInt32 % 65536).toInt32)) < 0) ok_X15_kindAt rfl q_cn (fun h62 => ?_) (fun h62 => ?_)
                    · have hf := q_ip h62 hf
                      refine q_blk 1 [] (c' := q_kc (t, r, 0, 529, 539, (q_pE ext), (q_pR rx), L) I E 113 [some (.ref 492), some (.int x1), some (.int x2), some (.int r9), some (.int (x1 + (1 : Int32))), some (.int (0 : Int32))] [.int (901 : Int32)] [(496, (q_up (I 496) j58 (1 : Int32)))] []) ok_X15_kindAt rfl q_cn ?_
                      cases hf
                      exact q_kri ok_X15_kindAt rfl rfl rfl (Nat.le_of_ble_eq_true rfl) (Nat.le_of_ble_eq_true rfl) ⟨rfl, q_hpe (q_pdw [496] rfl rfl) (q_pdw [] rfl rfl)⟩
                    · have hf := q_in h62 hf
                      refine q_blk 4 [] (c' := q_kc (t, r, 0, 529, 539, (q_pE ext), (q_pR rx), L) I E 113 [some (.ref 492), some (.int x1), some (.int x2), some (.int r9), some (.int (x1 + (1 : Int32))), some (.int (0 : Int32))] [.int ((50 : Int32) + r9)] [(496, (q_up (I 496) j58 (1 : Int32)))] []) ok_X15_kindAt rfl q_cn ?_
                      cases hf
                      exact q_kri ok_X15_kindAt rfl rfl rfl (Nat.le_of_ble_eq_true rfl) (Nat.le_of_ble_eq_true rfl) ⟨rfl, q_hpe (q_pdw [496] rfl rfl) (q_pdw [] rfl rfl)⟩
              · have hf := q_in h59 hf
                refine q_blf 2 [] (a := q_kc (t, r, 0, 529, 539, (q_pE ext), (q_pR rx), L) I E 96 [some (.ref 492), some (.int x1), some (.int x2), some (.int r9), some (.int (x1 + (1 : Int32))), some (.int (0 : Int32))] [] [(496, (q_up (I 496) j58 (1 : Int32)))] []) (b := q_kc (t, r, 0, 529, 539, (q_pE ext), (q_pR rx), L) I E 94 [some (.ref 492), some (.int x1), some (.int x2), some (.int r9), some (.int (x1 + (1 : Int32))), some (.int (0 : Int32))] [] [(496, (q_up (I 496) j58 (1 : Int32)))] []) (P := ¬ r9 = (60 : Int32)) ok_X15_kindAt rfl q_cn (fun h63 => ?_) (fun h63 => ?_)
                · have hf := q_ip h63 hf
                  refine q_blk 1 [] (c' := q_kc (t, r, 0, 529, 539, (q_pE ext), (q_pR rx), L) I E 97 [some (.ref 492), some (.int x1), some (.int x2), some (.int r9), some (.int (x1 + (1 : Int32))), some (.int (0 : Int32))] [.int (301 : Int32)] [(496, (q_up (I 496) j58 (1 : Int32)))] []) ok_X15_kindAt rfl q_cn ?_
                  cases hf
                  exact q_kri ok_X15_kindAt rfl rfl rfl (Nat.le_of_ble_eq_true rfl) (Nat.le_of_ble_eq_true rfl) ⟨rfl, q_hpe (q_pdw [496] rfl rfl) (q_pdw [] rfl rfl)⟩
                · have hf := q_in h63 hf
                  refine q_blk 2 [] (c' := q_kc (t, r, 0, 529, 539, (q_pE ext), (q_pR rx), L) I E 97 [some (.ref 492), some (.int x1), some (.int x2), some (.int r9), some (.int (x1 + (1 : Int32))), some (.int (0 : Int32))] [.int (300 : Int32)] [(496, (q_up (I 496) j58 (1 : Int32)))] []) ok_X15_kindAt rfl q_cn ?_
                  cases hf
                  exact q_kri ok_X15_kindAt rfl rfl rfl (Nat.le_of_ble_eq_true rfl) (Nat.le_of_ble_eq_true rfl) ⟨rfl, q_hpe (q_pdw [496] rfl rfl) (q_pdw [] rfl rfl)⟩
            · have hf := q_in h57 hf
              obtain ⟨j64, hj64, hf⟩ := q_bd hf
              refine q_blf 4 [j64] (a := q_kc (t, r, 0, 529, 539, (q_pE ext), (q_pR rx), L) I E 98 [some (.ref 492), some (.int x1), some (.int x2), some (.int r9), some (.int (x1 + (1 : Int32))), some (.int (0 : Int32))] [] [(496, (q_up (I 496) j64 (2 : Int32)))] []) (b := q_kc (t, r, 0, 529, 539, (q_pE ext), (q_pR rx), L) I E 91 [some (.ref 492), some (.int x1), some (.int x2), some (.int r9), some (.int (x1 + (1 : Int32))), some (.int (0 : Int32))] [] [(496, (q_up (I 496) j64 (2 : Int32)))] []) (P := (0 : Int32) = 0) ok_X15_kindAt rfl (q_cc hj64 q_cn) (fun h65 => ?_) (fun h65 => ?_)
              · have hf := q_ip h65 hf
                refine q_blf 1 [] (a := q_kc (t, r, 0, 529, 539, (q_pE ext), (q_pR rx), L) I E 112 [some (.ref 492), some (.int x1), some (.int x2), some (.int r9), some (.int (x1 + (1 : Int32))), some (.int (0 : Int32))] [] [(496, (q_up (I 496) j64 (2 : Int32)))] []) (b := q_kc (t, r, 0, 529, 539, (q_pE ext), (q_pR rx), L) I E 100 [some (.ref 492), some (.int x1), some (.int x2), some (.int r9), some (.int (x1 + (1 : Int32))), some (.int (0 : Int32))] [] [(496, (q_up (I 496) j64 (2 : Int32)))] []) (P := r9 ≤ 0) ok_X15_kindAt rfl q_cn (fun h66 => ?_) (fun h66 => ?_)
                · have hf := q_ip h66 hf
                  refine q_blk 1 [] (c' := q_kc (t, r, 0, 529, 539, (q_pE ext), (q_pR rx), L) I E 113 [some (.ref 492), some (.int x1), some (.int x2), some (.int r9), some (.int (x1 + (1 : Int32))), some (.int (0 : Int32))] [.int (901 : Int32)] [(496, (q_up (I 496) j64 (2 : Int32)))] []) ok_X15_kindAt rfl q_cn ?_
                  cases hf
                  exact q_kri ok_X15_kindAt rfl rfl rfl (Nat.le_of_ble_eq_true rfl) (Nat.le_of_ble_eq_true rfl) ⟨rfl, q_hpe (q_pdw [496] rfl rfl) (q_pdw [] rfl rfl)⟩
                · have hf := q_in h66 hf
                  refine q_blf 2 [] (a := q_kc (t, r, 0, 529, 539, (q_pE ext), (q_pR rx), L) I E 112 [some (.ref 492), some (.int x1), some (.int x2), some (.int r9), some (.int (x1 + (1 : Int32))), some (.int (0 : Int32))] [] [(496, (q_up (I 496) j64 (2 : Int32)))] []) (b := q_kc (t, r, 0, 529, 539, (q_pE ext), (q_pR rx), L) I E 103 [some (.ref 492), some (.int x1), some (.int x2), some (.int r9), some (.int (x1 + (1 : Int32))), some (.int (0 : Int32))] [] [(496, (q_up (I 496) j64 (2 : Int32)))] []) (P := (128 : Int32) ≤ r9) ok_X15_kindAt rfl q_cn (fun h67 => ?_) (fun h67 => ?_)
                  · have hf := q_ip h67 hf
                    refine q_blk 1 [] (c' := q_kc (t, r, 0, 529, 539, (q_pE ext), (q_pR rx), L) I E 113 [some (.ref 492), some (.int x1), some (.int x2), some (.int r9), some (.int (x1 + (1 : Int32))), some (.int (0 : Int32))] [.int (901 : Int32)] [(496, (q_up (I 496) j64 (2 : Int32)))] []) ok_X15_kindAt rfl q_cn ?_
                    cases hf
                    exact q_kri ok_X15_kindAt rfl rfl rfl (Nat.le_of_ble_eq_true rfl) (Nat.le_of_ble_eq_true rfl) ⟨rfl, q_hpe (q_pdw [496] rfl rfl) (q_pdw [] rfl rfl)⟩
                  · have hf := q_in h67 hf
                    refine q_kldc (pos' := 104) ok_X15_kindAt rfl rfl rfl rfl ?_
                    refine q_blk 2 [] (c' := q_kc (t, r, 0, 529, 539, (q_pE ext), (q_pR rx), L) I E 106 [some (.ref 492), some (.int x1), some (.int x2), some (.int r9), some (.int (x1 + (1 : Int32))), some (.int (0 : Int32))] [.int ((r9.toUInt32 % 65536).toInt32), .ref 180] [(496, (q_up (I 496) j64 (2 : Int32)))] []) ok_X15_kindAt rfl q_cn ?_
                    refine q_ksidx (pos' := 107) ok_X15_kindAt rfl (Or.inl rfl) (Nat.le_trans (Nat.le_of_ble_eq_true rfl) hd) (Nat.le_of_ble_eq_true rfl) (Nat.le_of_ble_eq_true rfl) (Nat.le_of_ble_eq_true rfl) rfl ?_
                    refine q_blf 0 [] (a := q_kc (t, r, 0, 529, 539, (q_pE ext), (q_pR rx), L) I E 112 [some (.ref 492), some (.int x1), some (.int x2), some (.int r9), some (.int (x1 + (1 : Int32))), some (.int (0 : Int32))] [] [(496, (q_up (I 496) j64 (2 : Int32)))] []) (b := q_kc (t, r, 0, 529, 539, (q_pE ext), (q_pR rx), L) I E 108 [some (.ref 492), some (.int x1), some (.int x2), some (.int r9), some (.int (x1 + (1 : Int32))), some (.int (0 : Int32))] [] [(496, (q_up (I 496) j64 (2 : Int32)))] []) (P := (q_sidx (q_str 180) 0 ((r9.toUInt32 % 65536).toInt32)) < 0) ok_X15_kindAt rfl q_cn (fun h68 => ?_) (fun h68 => ?_)
                    · have hf := q_ip h68 hf
                      refine q_blk 1 [] (c' := q_kc (t, r, 0, 529, 539, (q_pE ext), (q_pR rx), L) I E 113 [some (.ref 492), some (.int x1), some (.int x2), some (.int r9), some (.int (x1 + (1 : Int32))), some (.int (0 : Int32))] [.int (901 : Int32)] [(496, (q_up (I 496) j64 (2 : Int32)))] []) ok_X15_kindAt rfl q_cn ?_
                      cases hf
                      exact q_kri ok_X15_kindAt rfl rfl rfl (Nat.le_of_ble_eq_true rfl) (Nat.le_of_ble_eq_true rfl) ⟨rfl, q_hpe (q_pdw [496] rfl rfl) (q_pdw [] rfl rfl)⟩
                    · have hf := q_in h68 hf
                      refine q_blk 4 [] (c' := q_kc (t, r, 0, 529, 539, (q_pE ext), (q_pR rx), L) I E 113 [some (.ref 492), some (.int x1), some (.int x2), some (.int r9), some (.int (x1 + (1 : Int32))), some (.int (0 : Int32))] [.int ((50 : Int32) + r9)] [(496, (q_up (I 496) j64 (2 : Int32)))] []) ok_X15_kindAt rfl q_cn ?_
                      cases hf
                      exact q_kri ok_X15_kindAt rfl rfl rfl (Nat.le_of_ble_eq_true rfl) (Nat.le_of_ble_eq_true rfl) ⟨rfl, q_hpe (q_pdw [496] rfl rfl) (q_pdw [] rfl rfl)⟩
              · have hf := q_in h65 hf
                refine q_blf 2 [] (a := q_kc (t, r, 0, 529, 539, (q_pE ext), (q_pR rx), L) I E 96 [some (.ref 492), some (.int x1), some (.int x2), some (.int r9), some (.int (x1 + (1 : Int32))), some (.int (0 : Int32))] [] [(496, (q_up (I 496) j64 (2 : Int32)))] []) (b := q_kc (t, r, 0, 529, 539, (q_pE ext), (q_pR rx), L) I E 94 [some (.ref 492), some (.int x1), some (.int x2), some (.int r9), some (.int (x1 + (1 : Int32))), some (.int (0 : Int32))] [] [(496, (q_up (I 496) j64 (2 : Int32)))] []) (P := ¬ r9 = (60 : Int32)) ok_X15_kindAt rfl q_cn (fun h69 => ?_) (fun h69 => ?_)
                · have hf := q_ip h69 hf
                  refine q_blk 1 [] (c' := q_kc (t, r, 0, 529, 539, (q_pE ext), (q_pR rx), L) I E 97 [some (.ref 492), some (.int x1), some (.int x2), some (.int r9), some (.int (x1 + (1 : Int32))), some (.int (0 : Int32))] [.int (301 : Int32)] [(496, (q_up (I 496) j64 (2 : Int32)))] []) ok_X15_kindAt rfl q_cn ?_
                  cases hf
                  exact q_kri ok_X15_kindAt rfl rfl rfl (Nat.le_of_ble_eq_true rfl) (Nat.le_of_ble_eq_true rfl) ⟨rfl, q_hpe (q_pdw [496] rfl rfl) (q_pdw [] rfl rfl)⟩
                · have hf := q_in h69 hf
                  refine q_blk 2 [] (c' := q_kc (t, r, 0, 529, 539, (q_pE ext), (q_pR rx), L) I E 97 [some (.ref 492), some (.int x1), some (.int x2), some (.int r9), some (.int (x1 + (1 : Int32))), some (.int (0 : Int32))] [.int (300 : Int32)] [(496, (q_up (I 496) j64 (2 : Int32)))] []) ok_X15_kindAt rfl q_cn ?_
                  cases hf
                  exact q_kri ok_X15_kindAt rfl rfl rfl (Nat.le_of_ble_eq_true rfl) (Nat.le_of_ble_eq_true rfl) ⟨rfl, q_hpe (q_pdw [496] rfl rfl) (q_pdw [] rfl rfl)⟩
          · have hf := q_in h56 hf
            refine q_blk 2 [] (c' := q_kc (t, r, 0, 529, 539, (q_pE ext), (q_pR rx), L) I E 73 [some (.ref 492), some (.int x1), some (.int x2), some (.int r9), some (.int (x1 + (1 : Int32))), none] [.int (x1 + (1 : Int32)), .ref 492] [] []) ok_X15_kindAt rfl q_cn ?_
            obtain ⟨r70, hr70, hf⟩ := q_bd hf
            refine q_kV (M2 := m_X15_byteOf) (As := [.int (x1 + (1 : Int32))]) (b := 492) (v2 := some (.int r70)) ok_X15_kindAt ok_X15_byteOf cv_X15_byteOf (ct_X15_byteOf_492_P (d := 1) (Nat.le_refl _) hr70) rfl rfl (Or.inl rfl) rfl rfl rfl rfl (Nat.le_trans (Nat.le_of_ble_eq_true rfl) hd) (Nat.le_of_ble_eq_true rfl) (Nat.le_of_ble_eq_true rfl) (Nat.le_of_ble_eq_true rfl) (fun x hx => absurd hx List.not_mem_nil) (q_nmL0 _) (q_nmS0 _) rfl (pos' := 74) (st' := [.int r70]) (lI' := []) (lE' := []) rfl rfl rfl rfl ?_
            refine q_blf 1 [] (a := q_kc (t, r, 0, 529, 539, (q_pE ext), (q_pR rx), L) I E 78 [some (.ref 492), some (.int x1), some (.int x2), some (.int r9), some (.int (x1 + (1 : Int32))), none] [] [] []) (b := q_kc (t, r, 0, 529, 539, (q_pE ext), (q_pR rx), L) I E 76 [some (.ref 492), some (.int x1), some (.int x2), some (.int r9), some (.int (x1 + (1 : Int32))), none] [] [] []) (P := ¬ r70 = (61 : Int32)) ok_X15_kindAt rfl q_cn (fun h71 => ?_) (fun h71 => ?_)
            · have hf := q_ip h71 hf
              refine q_blf 6 [] (a := q_kc (t, r, 0, 529, 539, (q_pE ext), (q_pR rx), L) I E 87 [some (.ref 492), some (.int x1), some (.int x2), some (.int r9), some (.int (x1 + (1 : Int32))), some (.int (0 : Int32))] [.int x2, .ref 496] [] []) (b := q_kc (t, r, 0, 529, 539, (q_pE ext), (q_pR rx), L) I E 85 [some (.ref 492), some (.int x1), some (.int x2), some (.int r9), some (.int (x1 + (1 : Int32))), some (.int (0 : Int32))] [.int x2, .ref 496] [] []) (P := (0 : Int32) = 0) ok_X15_kindAt rfl q_cn (fun h72 => ?_) (fun h72 => ?_)
              · have hf := q_ip h72 hf
                obtain ⟨j73, hj73, hf⟩ := q_bd hf
                refine q_blf 3 [j73] (a := q_kc (t, r, 0, 529, 539, (q_pE ext), (q_pR rx), L) I E 98 [some (.ref 492), some (.int x1), some (.int x2), some (.int r9), some (.int (x1 + (1 : Int32))), some (.int (0 : Int32))] [] [(496, (q_up (I 496) j73 (1 : Int32)))] []) (b := q_kc (t, r, 0, 529, 539, (q_pE ext), (q_pR rx), L) I E 91 [some (.ref 492), some (.int x1), some (.int x2), some (.int r9), some (.int (x1 + (1 : Int32))), some (.int (0 : Int32))] [] [(496, (q_up (I 496) j73 (1 : Int32)))] []) (P := (0 : Int32) = 0) ok_X15_kindAt rfl (q_cc hj73 q_cn) (fun h74 => ?_) (fun h74 => ?_)
                · have hf := q_ip h74 hf
                  refine q_blf 1 [] (a := q_kc (t, r, 0, 529, 539, (q_pE ext), (q_pR rx), L) I E 112 [some (.ref 492), some (.int x1), some (.int x2), some (.int r9), some (.int (x1 + (1 : Int32))), some (.int (0 : Int32))] [] [(496, (q_up (I 496) j73 (1 : Int32)))] []) (b := q_kc (t, r, 0, 529, 539, (q_pE ext), (q_pR rx), L) I E 100 [some (.ref 492), some (.int x1), some (.int x2), some (.int r9), some (.int (x1 + (1 : Int32))), some (.int (0 : Int32))] [] [(496, (q_up (I 496) j73 (1 : Int32)))] []) (P := r9 ≤ 0) ok_X15_kindAt rfl q_cn (fun h75 => ?_) (fun h75 => ?_)
                  · have hf := q_ip h75 hf
                    refine q_blk 1 [] (c' := q_kc (t, r, 0, 529, 539, (q_pE ext), (q_pR rx), L) I E 113 [some (.ref 492), some (.int x1), some (.int x2), some (.int r9), some (.int (x1 + (1 : Int32))), some (.int (0 : Int32))] [.int (901 : Int32)] [(496, (q_up (I 496) j73 (1 : Int32)))] []) ok_X15_kindAt rfl q_cn ?_
                    cases hf
                    exact q_kri ok_X15_kindAt rfl rfl rfl (Nat.le_of_ble_eq_true rfl) (Nat.le_of_ble_eq_true rfl) ⟨rfl, q_hpe (q_pdw [496] rfl rfl) (q_pdw [] rfl rfl)⟩
                  · have hf := q_in h75 hf
                    refine q_blf 2 [] (a := q_kc (t, r, 0, 529, 539, (q_pE ext), (q_pR rx), L) I E 112 [some (.ref 492), some (.int x1), some (.int x2), some (.int r9), some (.int (x1 + (1 : Int32))), some (.int (0 : Int32))] [] [(496, (q_up (I 496) j73 (1 : Int32)))] []) (b := q_kc (t, r, 0, 529, 539, (q_pE ext), (q_pR rx), L) I E 103 [some (.ref 492), some (.int x1), some (.int x2), some (.int r9), some (.int (x1 + (1 : Int32))), some (.int (0 : Int32))] [] [(496, (q_up (I 496) j73 (1 : Int32)))] []) (P := (128 : Int32) ≤ r9) ok_X15_kindAt rfl q_cn (fun h76 => ?_) (fun h76 => ?_)
                    · have hf := q_ip h76 hf
                      refine q_blk 1 [] (c' := q_kc (t, r, 0, 529, 539, (q_pE ext), (q_pR rx), L) I E 113 [some (.ref 492), some (.int x1), some (.int x2), some (.int r9), some (.int (x1 + (1 : Int32))), some (.int (0 : Int32))] [.int (901 : Int32)] [(496, (q_up (I 496) j73 (1 : Int32)))] []) ok_X15_kindAt rfl q_cn ?_
                      cases hf
                      exact q_kri ok_X15_kindAt rfl rfl rfl (Nat.le_of_ble_eq_true rfl) (Nat.le_of_ble_eq_true rfl) ⟨rfl, q_hpe (q_pdw [496] rfl rfl) (q_pdw [] rfl rfl)⟩
                    · have hf := q_in h76 hf
                      refine q_kldc (pos' := 104) ok_X15_kindAt rfl rfl rfl rfl ?_
                      refine q_blk 2 [] (c' := q_kc (t, r, 0, 529, 539, (q_pE ext), (q_pR rx), L) I E 106 [some (.ref 492), some (.int x1), some (.int x2), some (.int r9), some (.int (x1 + (1 : Int32))), some (.int (0 : Int32))] [.int ((r9.toUInt32 % 65536).toInt32), .ref 180] [(496, (q_up (I 496) j73 (1 : Int32)))] []) ok_X15_kindAt rfl q_cn ?_
                      refine q_ksidx (pos' := 107) ok_X15_kindAt rfl (Or.inl rfl) (Nat.le_trans (Nat.le_of_ble_eq_true rfl) hd) (Nat.le_of_ble_eq_true rfl) (Nat.le_of_ble_eq_true rfl) (Nat.le_of_ble_eq_true rfl) rfl ?_
                      refine q_blf 0 [] (a := q_kc (t, r, 0, 529, 539, (q_pE ext), (q_pR rx), L) I E 112 [some (.ref 492), some (.int x1), some (.int x2), some (.int r9), some (.int (x1 + (1 : Int32))), some (.int (0 : Int32))] [] [(496, (q_up (I 496) j73 (1 : Int32)))] []) (b := q_kc (t, r, 0, 529, 539, (q_pE ext), (q_pR rx), L) I E 108 [some (.ref 492), some (.int x1), some (.int x2), some (.int r9), some (.int (x1 + (1 : Int32))), some (.int (0 : Int32))] [] [(496, (q_up (I 496) j73 (1 : Int32)))] []) (P := (q_sidx (q_str 180) 0 ((r9.toUInt32 % 65536).toInt32)) < 0) ok_X15_kindAt rfl q_cn (fun h77 => ?_) (fun h77 => ?_)
                      · have hf := q_ip h77 hf
                        refine q_blk 1 [] (c' := q_kc (t, r, 0, 529, 539, (q_pE ext), (q_pR rx), L) I E 113 [some (.ref 492), some (.int x1), some (.int x2), some (.int r9), some (.int (x1 + (1 : Int32))), some (.int (0 : Int32))] [.int (901 : Int32)] [(496, (q_up (I 496) j73 (1 : Int32)))] []) ok_X15_kindAt rfl q_cn ?_
                        cases hf
                        exact q_kri ok_X15_kindAt rfl rfl rfl (Nat.le_of_ble_eq_true rfl) (Nat.le_of_ble_eq_true rfl) ⟨rfl, q_hpe (q_pdw [496] rfl rfl) (q_pdw [] rfl rfl)⟩
                      · have hf := q_in h77 hf
                        refine q_blk 4 [] (c' := q_kc (t, r, 0, 529, 539, (q_pE ext), (q_pR rx), L) I E 113 [some (.ref 492), some (.int x1), some (.int x2), some (.int r9), some (.int (x1 + (1 : Int32))), some (.int (0 : Int32))] [.int ((50 : Int32) + r9)] [(496, (q_up (I 496) j73 (1 : Int32)))] []) ok_X15_kindAt rfl q_cn ?_
                        cases hf
                        exact q_kri ok_X15_kindAt rfl rfl rfl (Nat.le_of_ble_eq_true rfl) (Nat.le_of_ble_eq_true rfl) ⟨rfl, q_hpe (q_pdw [496] rfl rfl) (q_pdw [] rfl rfl)⟩
                · have hf := q_in h74 hf
                  refine q_blf 2 [] (a := q_kc (t, r, 0, 529, 539, (q_pE ext), (q_pR rx), L) I E 96 [some (.ref 492), some (.int x1), some (.int x2), some (.int r9), some (.int (x1 + (1 : Int32))), some (.int (0 : Int32))] [] [(496, (q_up (I 496) j73 (1 : Int32)))] []) (b := q_kc (t, r, 0, 529, 539, (q_pE ext), (q_pR rx), L) I E 94 [some (.ref 492), some (.int x1), some (.int x2), some (.int r9), some (.int (x1 + (1 : Int32))), some (.int (0 : Int32))] [] [(496, (q_up (I 496) j73 (1 : Int32)))] []) (P := ¬ r9 = (60 : Int32)) ok_X15_kindAt rfl q_cn (fun h78 => ?_) (fun h78 => ?_)
                  · have hf := q_ip h78 hf
                    refine q_blk 1 [] (c' := q_kc (t, r, 0, 529, 539, (q_pE ext), (q_pR rx), L) I E 97 [some (.ref 492), some (.int x1), some (.int x2), some (.int r9), some (.int (x1 + (1 : Int32))), some (.int (0 : Int32))] [.int (301 : Int32)] [(496, (q_up (I 496) j73 (1 : Int32)))] []) ok_X15_kindAt rfl q_cn ?_
                    cases hf
                    exact q_kri ok_X15_kindAt rfl rfl rfl (Nat.le_of_ble_eq_true rfl) (Nat.le_of_ble_eq_true rfl) ⟨rfl, q_hpe (q_pdw [496] rfl rfl) (q_pdw [] rfl rfl)⟩
                  · have hf := q_in h78 hf
                    refine q_blk 2 [] (c' := q_kc (t, r, 0, 529, 539, (q_pE ext), (q_pR rx), L) I E 97 [some (.ref 492), some (.int x1), some (.int x2), some (.int r9), some (.int (x1 + (1 : Int32))), some (.int (0 : Int32))] [.int (300 : Int32)] [(496, (q_up (I 496) j73 (1 : Int32)))] []) ok_X15_kindAt rfl q_cn ?_
                    cases hf
                    exact q_kri ok_X15_kindAt rfl rfl rfl (Nat.le_of_ble_eq_true rfl) (Nat.le_of_ble_eq_true rfl) ⟨rfl, q_hpe (q_pdw [496] rfl rfl) (q_pdw [] rfl rfl)⟩
              · have hf := q_in h72 hf
                obtain ⟨j79, hj79, hf⟩ := q_bd hf
                refine q_blf 4 [j79] (a := q_kc (t, r, 0, 529, 539, (q_pE ext), (q_pR rx), L) I E 98 [some (.ref 492), some (.int x1), some (.int x2), some (.int r9), some (.int (x1 + (1 : Int32))), some (.int (0 : Int32))] [] [(496, (q_up (I 496) j79 (2 : Int32)))] []) (b := q_kc (t, r, 0, 529, 539, (q_pE ext), (q_pR rx), L) I E 91 [some (.ref 492), some (.int x1), some (.int x2), some (.int r9), some (.int (x1 + (1 : Int32))), some (.int (0 : Int32))] [] [(496, (q_up (I 496) j79 (2 : Int32)))] []) (P := (0 : Int32) = 0) ok_X15_kindAt rfl (q_cc hj79 q_cn) (fun h80 => ?_) (fun h80 => ?_)
                · have hf := q_ip h80 hf
                  refine q_blf 1 [] (a := q_kc (t, r, 0, 529, 539, (q_pE ext), (q_pR rx), L) I E 112 [some (.ref 492), some (.int x1), some (.int x2), some (.int r9), some (.int (x1 + (1 : Int32))), some (.int (0 : Int32))] [] [(496, (q_up (I 496) j79 (2 : Int32)))] []) (b := q_kc (t, r, 0, 529, 539, (q_pE ext), (q_pR rx), L) I E 100 [some (.ref 492), some (.int x1), some (.int x2), some (.int r9), some (.int (x1 + (1 : Int32))), some (.int (0 : Int32))] [] [(496, (q_up (I 496) j79 (2 : Int32)))] []) (P := r9 ≤ 0) ok_X15_kindAt rfl q_cn (fun h81 => ?_) (fun h81 => ?_)
                  · have hf := q_ip h81 hf
                    refine q_blk 1 [] (c' := q_kc (t, r, 0, 529, 539, (q_pE ext), (q_pR rx), L) I E 113 [some (.ref 492), some (.int x1), some (.int x2), some (.int r9), some (.int (x1 + (1 : Int32))), some (.int (0 : Int32))] [.int (901 : Int32)] [(496, (q_up (I 496) j79 (2 : Int32)))] []) ok_X15_kindAt rfl q_cn ?_
                    cases hf
                    exact q_kri ok_X15_kindAt rfl rfl rfl (Nat.le_of_ble_eq_true rfl) (Nat.le_of_ble_eq_true rfl) ⟨rfl, q_hpe (q_pdw [496] rfl rfl) (q_pdw [] rfl rfl)⟩
                  · have hf := q_in h81 hf
                    refine q_blf 2 [] (a := q_kc (t, r, 0, 529, 539, (q_pE ext), (q_pR rx), L) I E 112 [some (.ref 492), some (.int x1), some (.int x2), some (.int r9), some (.int (x1 + (1 : Int32))), some (.int (0 : Int32))] [] [(496, (q_up (I 496) j79 (2 : Int32)))] []) (b := q_kc (t, r, 0, 529, 539, (q_pE ext), (q_pR rx), L) I E 103 [some (.ref 492), some (.int x1), some (.int x2), some (.int r9), some (.int (x1 + (1 : Int32))), some (.int (0 : Int32))] [] [(496, (q_up (I 496) j79 (2 : Int32)))] []) (P := (128 : Int32) ≤ r9) ok_X15_kindAt rfl q_cn (fun h82 => ?_) (fun h82 => ?_)
                    · have hf := q_ip h82 hf
                      refine q_blk 1 [] (c' := q_kc (t, r, 0, 529, 539, (q_pE ext), (q_pR rx), L) I E 113 [some (.ref 492), some (.int x1), some (.int x2), some (.int r9), some (.int (x1 + (1 : Int32))), some (.int (0 : Int32))] [.int (901 : Int32)] [(496, (q_up (I 496) j79 (2 : Int32)))] []) ok_X15_kindAt rfl q_cn ?_
                      cases hf
                      exact q_kri ok_X15_kindAt rfl rfl rfl (Nat.le_of_ble_eq_true rfl) (Nat.le_of_ble_eq_true rfl) ⟨rfl, q_hpe (q_pdw [496] rfl rfl) (q_pdw [] rfl rfl)⟩
                    · have hf := q_in h82 hf
                      refine q_kldc (pos' := 104) ok_X15_kindAt rfl rfl rfl rfl ?_
                      refine q_blk 2 [] (c' := q_kc (t, r, 0, 529, 539, (q_pE ext), (q_pR rx), L) I E 106 [some (.ref 492), some (.int x1), some (.int x2), some (.int r9), some (.int (x1 + (1 : Int32))), some (.int (0 : Int32))] [.int ((r9.toUInt32 % 65536).toInt32), .ref 180] [(496, (q_up (I 496) j79 (2 : Int32)))] []) ok_X15_kindAt rfl q_cn ?_
                      refine q_ksidx (pos' := 107) ok_X15_kindAt rfl (Or.inl rfl) (Nat.le_trans (Nat.le_of_ble_eq_true rfl) hd) (Nat.le_of_ble_eq_true rfl) (Nat.le_of_ble_eq_true rfl) (Nat.le_of_ble_eq_true rfl) rfl ?_
                      refine q_blf 0 [] (a := q_kc (t, r, 0, 529, 539, (q_pE ext), (q_pR rx), L) I E 112 [some (.ref 492), some (.int x1), some (.int x2), some (.int r9), some (.int (x1 + (1 : Int32))), some (.int (0 : Int32))] [] [(496, (q_up (I 496) j79 (2 : Int32)))] []) (b := q_kc (t, r, 0, 529, 539, (q_pE ext), (q_pR rx), L) I E 108 [some (.ref 492), some (.int x1), some (.int x2), some (.int r9), some (.int (x1 + (1 : Int32))), some (.int (0 : Int32))] [] [(496, (q_up (I 496) j79 (2 : Int32)))] []) (P := (q_sidx (q_str 180) 0 ((r9.toUInt32 % 65536).toInt32)) < 0) ok_X15_kindAt rfl q_cn (fun h83 => ?_) (fun h83 => ?_)
                      · have hf := q_ip h83 hf
                        refine q_blk 1 [] (c' := q_kc (t, r, 0, 529, 539, (q_pE ext), (q_pR rx), L) I E 113 [some (.ref 492), some (.int x1), some (.int x2), some (.int r9), some (.int (x1 + (1 : Int32))), some (.int (0 : Int32))] [.int (901 : Int32)] [(496, (q_up (I 496) j79 (2 : Int32)))] []) ok_X15_kindAt rfl q_cn ?_
                        cases hf
                        exact q_kri ok_X15_kindAt rfl rfl rfl (Nat.le_of_ble_eq_true rfl) (Nat.le_of_ble_eq_true rfl) ⟨rfl, q_hpe (q_pdw [496] rfl rfl) (q_pdw [] rfl rfl)⟩
                      · have hf := q_in h83 hf
                        refine q_blk 4 [] (c' := q_kc (t, r, 0, 529, 539, (q_pE ext), (q_pR rx), L) I E 113 [some (.ref 492), some (.int x1), some (.int x2), some (.int r9), some (.int (x1 + (1 : Int32))), some (.int (0 : Int32))] [.int ((50 : Int32) + r9)] [(496, (q_up (I 496) j79 (2 : Int32)))] []) ok_X15_kindAt rfl q_cn ?_
                        cases hf
                        exact q_kri ok_X15_kindAt rfl rfl rfl (Nat.le_of_ble_eq_true rfl) (Nat.le_of_ble_eq_true rfl) ⟨rfl, q_hpe (q_pdw [496] rfl rfl) (q_pdw [] rfl rfl)⟩
                · have hf := q_in h80 hf
                  refine q_blf 2 [] (a := q_kc (t, r, 0, 529, 539, (q_pE ext), (q_pR rx), L) I E 96 [some (.ref 492), some (.int x1), some (.int x2), some (.int r9), some (.int (x1 + (1 : Int32))), some (.int (0 : Int32))] [] [(496, (q_up (I 496) j79 (2 : Int32)))] []) (b := q_kc (t, r, 0, 529, 539, (q_pE ext), (q_pR rx), L) I E 94 [some (.ref 492), some (.int x1), some (.int x2), some (.int r9), some (.int (x1 + (1 : Int32))), some (.int (0 : Int32))] [] [(496, (q_up (I 496) j79 (2 : Int32)))] []) (P := ¬ r9 = (60 : Int32)) ok_X15_kindAt rfl q_cn (fun h84 => ?_) (fun h84 => ?_)
                  · have hf := q_ip h84 hf
                    refine q_blk 1 [] (c' := q_kc (t, r, 0, 529, 539, (q_pE ext), (q_pR rx), L) I E 97 [some (.ref 492), some (.int x1), some (.int x2), some (.int r9), some (.int (x1 + (1 : Int32))), some (.int (0 : Int32))] [.int (301 : Int32)] [(496, (q_up (I 496) j79 (2 : Int32)))] []) ok_X15_kindAt rfl q_cn ?_
                    cases hf
                    exact q_kri ok_X15_kindAt rfl rfl rfl (Nat.le_of_ble_eq_true rfl) (Nat.le_of_ble_eq_true rfl) ⟨rfl, q_hpe (q_pdw [496] rfl rfl) (q_pdw [] rfl rfl)⟩
                  · have hf := q_in h84 hf
                    refine q_blk 2 [] (c' := q_kc (t, r, 0, 529, 539, (q_pE ext), (q_pR rx), L) I E 97 [some (.ref 492), some (.int x1), some (.int x2), some (.int r9), some (.int (x1 + (1 : Int32))), some (.int (0 : Int32))] [.int (300 : Int32)] [(496, (q_up (I 496) j79 (2 : Int32)))] []) ok_X15_kindAt rfl q_cn ?_
                    cases hf
                    exact q_kri ok_X15_kindAt rfl rfl rfl (Nat.le_of_ble_eq_true rfl) (Nat.le_of_ble_eq_true rfl) ⟨rfl, q_hpe (q_pdw [496] rfl rfl) (q_pdw [] rfl rfl)⟩
            · have hf := q_in h71 hf
              refine q_blf 7 [] (a := q_kc (t, r, 0, 529, 539, (q_pE ext), (q_pR rx), L) I E 87 [some (.ref 492), some (.int x1), some (.int x2), some (.int r9), some (.int (x1 + (1 : Int32))), some (.int (1 : Int32))] [.int x2, .ref 496] [] []) (b := q_kc (t, r, 0, 529, 539, (q_pE ext), (q_pR rx), L) I E 85 [some (.ref 492), some (.int x1), some (.int x2), some (.int r9), some (.int (x1 + (1 : Int32))), some (.int (1 : Int32))] [.int x2, .ref 496] [] []) (P := (1 : Int32) = 0) ok_X15_kindAt rfl q_cn (fun h85 => ?_) (fun h85 => ?_)
              · have hf := q_ip h85 hf
                obtain ⟨j86, hj86, hf⟩ := q_bd hf
                refine q_blf 3 [j86] (a := q_kc (t, r, 0, 529, 539, (q_pE ext), (q_pR rx), L) I E 98 [some (.ref 492), some (.int x1), some (.int x2), some (.int r9), some (.int (x1 + (1 : Int32))), some (.int (1 : Int32))] [] [(496, (q_up (I 496) j86 (1 : Int32)))] []) (b := q_kc (t, r, 0, 529, 539, (q_pE ext), (q_pR rx), L) I E 91 [some (.ref 492), some (.int x1), some (.int x2), some (.int r9), some (.int (x1 + (1 : Int32))), some (.int (1 : Int32))] [] [(496, (q_up (I 496) j86 (1 : Int32)))] []) (P := (1 : Int32) = 0) ok_X15_kindAt rfl (q_cc hj86 q_cn) (fun h87 => ?_) (fun h87 => ?_)
                · have hf := q_ip h87 hf
                  refine q_blf 1 [] (a := q_kc (t, r, 0, 529, 539, (q_pE ext), (q_pR rx), L) I E 112 [some (.ref 492), some (.int x1), some (.int x2), some (.int r9), some (.int (x1 + (1 : Int32))), some (.int (1 : Int32))] [] [(496, (q_up (I 496) j86 (1 : Int32)))] []) (b := q_kc (t, r, 0, 529, 539, (q_pE ext), (q_pR rx), L) I E 100 [some (.ref 492), some (.int x1), some (.int x2), some (.int r9), some (.int (x1 + (1 : Int32))), some (.int (1 : Int32))] [] [(496, (q_up (I 496) j86 (1 : Int32)))] []) (P := r9 ≤ 0) ok_X15_kindAt rfl q_cn (fun h88 => ?_) (fun h88 => ?_)
                  · have hf := q_ip h88 hf
                    refine q_blk 1 [] (c' := q_kc (t, r, 0, 529, 539, (q_pE ext), (q_pR rx), L) I E 113 [some (.ref 492), some (.int x1), some (.int x2), some (.int r9), some (.int (x1 + (1 : Int32))), some (.int (1 : Int32))] [.int (901 : Int32)] [(496, (q_up (I 496) j86 (1 : Int32)))] []) ok_X15_kindAt rfl q_cn ?_
                    cases hf
                    exact q_kri ok_X15_kindAt rfl rfl rfl (Nat.le_of_ble_eq_true rfl) (Nat.le_of_ble_eq_true rfl) ⟨rfl, q_hpe (q_pdw [496] rfl rfl) (q_pdw [] rfl rfl)⟩
                  · have hf := q_in h88 hf
                    refine q_blf 2 [] (a := q_kc (t, r, 0, 529, 539, (q_pE ext), (q_pR rx), L) I E 112 [some (.ref 492), some (.int x1), some (.int x2), some (.int r9), some (.int (x1 + (1 : Int32))), some (.int (1 : Int32))] [] [(496, (q_up (I 496) j86 (1 : Int32)))] []) (b := q_kc (t, r, 0, 529, 539, (q_pE ext), (q_pR rx), L) I E 103 [some (.ref 492), some (.int x1), some (.int x2), some (.int r9), some (.int (x1 + (1 : Int32))), some (.int (1 : Int32))] [] [(496, (q_up (I 496) j86 (1 : Int32)))] []) (P := (128 : Int32) ≤ r9) ok_X15_kindAt rfl q_cn (fun h89 => ?_) (fun h89 => ?_)
                    · have hf := q_ip h89 hf
                      refine q_blk 1 [] (c' := q_kc (t, r, 0, 529, 539, (q_pE ext), (q_pR rx), L) I E 113 [some (.ref 492), some (.int x1), some (.int x2), some (.int r9), some (.int (x1 + (1 : Int32))), some (.int (1 : Int32))] [.int (901 : Int32)] [(496, (q_up (I 496) j86 (1 : Int32)))] []) ok_X15_kindAt rfl q_cn ?_
                      cases hf
                      exact q_kri ok_X15_kindAt rfl rfl rfl (Nat.le_of_ble_eq_true rfl) (Nat.le_of_ble_eq_true rfl) ⟨rfl, q_hpe (q_pdw [496] rfl rfl) (q_pdw [] rfl rfl)⟩
                    · have hf := q_in h89 hf
                      refine q_kldc (pos' := 104) ok_X15_kindAt rfl rfl rfl rfl ?_
                      refine q_blk 2 [] (c' := q_kc (t, r, 0, 529, 539, (q_pE ext), (q_pR rx), L) I E 106 [some (.ref 492), some (.int x1), some (.int x2), some (.int r9), some (.int (x1 + (1 : Int32))), some (.int (1 : Int32))] [.int ((r9.toUInt32 % 65536).toInt32), .ref 180] [(496, (q_up (I 496) j86 (1 : Int32)))] []) ok_X15_kindAt rfl q_cn ?_
                      refine q_ksidx (pos' := 107) ok_X15_kindAt rfl (Or.inl rfl) (Nat.le_trans (Nat.le_of_ble_eq_true rfl) hd) (Nat.le_of_ble_eq_true rfl) (Nat.le_of_ble_eq_true rfl) (Nat.le_of_ble_eq_true rfl) rfl ?_
                      refine q_blf 0 [] (a := q_kc (t, r, 0, 529, 539, (q_pE ext), (q_pR rx), L) I E 112 [some (.ref 492), some (.int x1), some (.int x2), some (.int r9), some (.int (x1 + (1 : Int32))), some (.int (1 : Int32))] [] [(496, (q_up (I 496) j86 (1 : Int32)))] []) (b := q_kc (t, r, 0, 529, 539, (q_pE ext), (q_pR rx), L) I E 108 [some (.ref 492), some (.int x1), some (.int x2), some (.int r9), some (.int (x1 + (1 : Int32))), some (.int (1 : Int32))] [] [(496, (q_up (I 496) j86 (1 : Int32)))] []) (P := (q_sidx (q_str 180) 0 ((r9.toUInt32 % 65536).toInt32)) < 0) ok_X15_kindAt rfl q_cn (fun h90 => ?_) (fun h90 => ?_)
                      · have hf := q_ip h90 hf
                        refine q_blk 1 [] (c' := q_kc (t, r, 0, 529, 539, (q_pE ext), (q_pR rx), L) I E 113 [some (.ref 492), some (.int x1), some (.int x2), some (.int r9), some (.int (x1 + (1 : Int32))), some (.int (1 : Int32))] [.int (901 : Int32)] [(496, (q_up (I 496) j86 (1 : Int32)))] []) ok_X15_kindAt rfl q_cn ?_
                        cases hf
                        exact q_kri ok_X15_kindAt rfl rfl rfl (Nat.le_of_ble_eq_true rfl) (Nat.le_of_ble_eq_true rfl) ⟨rfl, q_hpe (q_pdw [496] rfl rfl) (q_pdw [] rfl rfl)⟩
                      · have hf := q_in h90 hf
                        refine q_blk 4 [] (c' := q_kc (t, r, 0, 529, 539, (q_pE ext), (q_pR rx), L) I E 113 [some (.ref 492), some (.int x1), some (.int x2), some (.int r9), some (.int (x1 + (1 : Int32))), some (.int (1 : Int32))] [.int ((50 : Int32) + r9)] [(496, (q_up (I 496) j86 (1 : Int32)))] []) ok_X15_kindAt rfl q_cn ?_
                        cases hf
                        exact q_kri ok_X15_kindAt rfl rfl rfl (Nat.le_of_ble_eq_true rfl) (Nat.le_of_ble_eq_true rfl) ⟨rfl, q_hpe (q_pdw [496] rfl rfl) (q_pdw [] rfl rfl)⟩
                · have hf := q_in h87 hf
                  refine q_blf 2 [] (a := q_kc (t, r, 0, 529, 539, (q_pE ext), (q_pR rx), L) I E 96 [some (.ref 492), some (.int x1), some (.int x2), some (.int r9), some (.int (x1 + (1 : Int32))), some (.int (1 : Int32))] [] [(496, (q_up (I 496) j86 (1 : Int32)))] []) (b := q_kc (t, r, 0, 529, 539, (q_pE ext), (q_pR rx), L) I E 94 [some (.ref 492), some (.int x1), some (.int x2), some (.int r9), some (.int (x1 + (1 : Int32))), some (.int (1 : Int32))] [] [(496, (q_up (I 496) j86 (1 : Int32)))] []) (P := ¬ r9 = (60 : Int32)) ok_X15_kindAt rfl q_cn (fun h91 => ?_) (fun h91 => ?_)
                  · have hf := q_ip h91 hf
                    refine q_blk 1 [] (c' := q_kc (t, r, 0, 529, 539, (q_pE ext), (q_pR rx), L) I E 97 [some (.ref 492), some (.int x1), some (.int x2), some (.int r9), some (.int (x1 + (1 : Int32))), some (.int (1 : Int32))] [.int (301 : Int32)] [(496, (q_up (I 496) j86 (1 : Int32)))] []) ok_X15_kindAt rfl q_cn ?_
                    cases hf
                    exact q_kri ok_X15_kindAt rfl rfl rfl (Nat.le_of_ble_eq_true rfl) (Nat.le_of_ble_eq_true rfl) ⟨rfl, q_hpe (q_pdw [496] rfl rfl) (q_pdw [] rfl rfl)⟩
                  · have hf := q_in h91 hf
                    refine q_blk 2 [] (c' := q_kc (t, r, 0, 529, 539, (q_pE ext), (q_pR rx), L) I E 97 [some (.ref 492), some (.int x1), some (.int x2), some (.int r9), some (.int (x1 + (1 : Int32))), some (.int (1 : Int32))] [.int (300 : Int32)] [(496, (q_up (I 496) j86 (1 : Int32)))] []) ok_X15_kindAt rfl q_cn ?_
                    cases hf
                    exact q_kri ok_X15_kindAt rfl rfl rfl (Nat.le_of_ble_eq_true rfl) (Nat.le_of_ble_eq_true rfl) ⟨rfl, q_hpe (q_pdw [496] rfl rfl) (q_pdw [] rfl rfl)⟩
              · have hf := q_in h85 hf
                obtain ⟨j92, hj92, hf⟩ := q_bd hf
                refine q_blf 4 [j92] (a := q_kc (t, r, 0, 529, 539, (q_pE ext), (q_pR rx), L) I E 98 [some (.ref 492), some (.int x1), some (.int x2), some (.int r9), some (.int (x1 + (1 : Int32))), some (.int (1 : Int32))] [] [(496, (q_up (I 496) j92 (2 : Int32)))] []) (b := q_kc (t, r, 0, 529, 539, (q_pE ext), (q_pR rx), L) I E 91 [some (.ref 492), some (.int x1), some (.int x2), some (.int r9), some (.int (x1 + (1 : Int32))), some (.int (1 : Int32))] [] [(496, (q_up (I 496) j92 (2 : Int32)))] []) (P := (1 : Int32) = 0) ok_X15_kindAt rfl (q_cc hj92 q_cn) (fun h93 => ?_) (fun h93 => ?_)
                · have hf := q_ip h93 hf
                  refine q_blf 1 [] (a := q_kc (t, r, 0, 529, 539, (q_pE ext), (q_pR rx), L) I E 112 [some (.ref 492), some (.int x1), some (.int x2), some (.int r9), some (.int (x1 + (1 : Int32))), some (.int (1 : Int32))] [] [(496, (q_up (I 496) j92 (2 : Int32)))] []) (b := q_kc (t, r, 0, 529, 539, (q_pE ext), (q_pR rx), L) I E 100 [some (.ref 492), some (.int x1), some (.int x2), some (.int r9), some (.int (x1 + (1 : Int32))), some (.int (1 : Int32))] [] [(496, (q_up (I 496) j92 (2 : Int32)))] []) (P := r9 ≤ 0) ok_X15_kindAt rfl q_cn (fun h94 => ?_) (fun h94 => ?_)
                  · have hf := q_ip h94 hf
                    refine q_blk 1 [] (c' := q_kc (t, r, 0, 529, 539, (q_pE ext), (q_pR rx), L) I E 113 [some (.ref 492), some (.int x1), some (.int x2), some (.int r9), some (.int (x1 + (1 : Int32))), some (.int (1 : Int32))] [.int (901 : Int32)] [(496, (q_up (I 496) j92 (2 : Int32)))] []) ok_X15_kindAt rfl q_cn ?_
                    cases hf
                    exact q_kri ok_X15_kindAt rfl rfl rfl (Nat.le_of_ble_eq_true rfl) (Nat.le_of_ble_eq_true rfl) ⟨rfl, q_hpe (q_pdw [496] rfl rfl) (q_pdw [] rfl rfl)⟩
                  · have hf := q_in h94 hf
                    refine q_blf 2 [] (a := q_kc (t, r, 0, 529, 539, (q_pE ext), (q_pR rx), L) I E 112 [some (.ref 492), some (.int x1), some (.int x2), some (.int r9), some (.int (x1 + (1 : Int32))), some (.int (1 : Int32))] [] [(496, (q_up (I 496) j92 (2 : Int32)))] []) (b := q_kc (t, r, 0, 529, 539, (q_pE ext), (q_pR rx), L) I E 103 [some (.ref 492), some (.int x1), some (.int x2), some (.int r9), some (.int (x1 + (1 : Int32))), some (.int (1 : Int32))] [] [(496, (q_up (I 496) j92 (2 : Int32)))] []) (P := (128 : Int32) ≤ r9) ok_X15_kindAt rfl q_cn (fun h95 => ?_) (fun h95 => ?_)
                    · have hf := q_ip h95 hf
                      refine q_blk 1 [] (c' := q_kc (t, r, 0, 529, 539, (q_pE ext), (q_pR rx), L) I E 113 [some (.ref 492), some (.int x1), some (.int x2), some (.int r9), some (.int (x1 + (1 : Int32))), some (.int (1 : Int32))] [.int (901 : Int32)] [(496, (q_up (I 496) j92 (2 : Int32)))] []) ok_X15_kindAt rfl q_cn ?_
                      cases hf
                      exact q_kri ok_X15_kindAt rfl rfl rfl (Nat.le_of_ble_eq_true rfl) (Nat.le_of_ble_eq_true rfl) ⟨rfl, q_hpe (q_pdw [496] rfl rfl) (q_pdw [] rfl rfl)⟩
                    · have hf := q_in h95 hf
                      refine q_kldc (pos' := 104) ok_X15_kindAt rfl rfl rfl rfl ?_
                      refine q_blk 2 [] (c' := q_kc (t, r, 0, 529, 539, (q_pE ext), (q_pR rx), L) I E 106 [some (.ref 492), some (.int x1), some (.int x2), some (.int r9), some (.int (x1 + (1 : Int32))), some (.int (1 : Int32))] [.int ((r9.toUInt32 % 65536).toInt32), .ref 180] [(496, (q_up (I 496) j92 (2 : Int32)))] []) ok_X15_kindAt rfl q_cn ?_
                      refine q_ksidx (pos' := 107) ok_X15_kindAt rfl (Or.inl rfl) (Nat.le_trans (Nat.le_of_ble_eq_true rfl) hd) (Nat.le_of_ble_eq_true rfl) (Nat.le_of_ble_eq_true rfl) (Nat.le_of_ble_eq_true rfl) rfl ?_
                      refine q_blf 0 [] (a := q_kc (t, r, 0, 529, 539, (q_pE ext), (q_pR rx), L) I E 112 [some (.ref 492), some (.int x1), some (.int x2), some (.int r9), some (.int (x1 + (1 : Int32))), some (.int (1 : Int32))] [] [(496, (q_up (I 496) j92 (2 : Int32)))] []) (b := q_kc (t, r, 0, 529, 539, (q_pE ext), (q_pR rx), L) I E 108 [some (.ref 492), some (.int x1), some (.int x2), some (.int r9), some (.int (x1 + (1 : Int32))), some (.int (1 : Int32))] [] [(496, (q_up (I 496) j92 (2 : Int32)))] []) (P := (q_sidx (q_str 180) 0 ((r9.toUInt32 % 65536).toInt32)) < 0) ok_X15_kindAt rfl q_cn (fun h96 => ?_) (fun h96 => ?_)
                      · have hf := q_ip h96 hf
                        refine q_blk 1 [] (c' := q_kc (t, r, 0, 529, 539, (q_pE ext), (q_pR rx), L) I E 113 [some (.ref 492), some (.int x1), some (.int x2), some (.int r9), some (.int (x1 + (1 : Int32))), some (.int (1 : Int32))] [.int (901 : Int32)] [(496, (q_up (I 496) j92 (2 : Int32)))] []) ok_X15_kindAt rfl q_cn ?_
                        cases hf
                        exact q_kri ok_X15_kindAt rfl rfl rfl (Nat.le_of_ble_eq_true rfl) (Nat.le_of_ble_eq_true rfl) ⟨rfl, q_hpe (q_pdw [496] rfl rfl) (q_pdw [] rfl rfl)⟩
                      · have hf := q_in h96 hf
                        refine q_blk 4 [] (c' := q_kc (t, r, 0, 529, 539, (q_pE ext), (q_pR rx), L) I E 113 [some (.ref 492), some (.int x1), some (.int x2), some (.int r9), some (.int (x1 + (1 : Int32))), some (.int (1 : Int32))] [.int ((50 : Int32) + r9)] [(496, (q_up (I 496) j92 (2 : Int32)))] []) ok_X15_kindAt rfl q_cn ?_
                        cases hf
                        exact q_kri ok_X15_kindAt rfl rfl rfl (Nat.le_of_ble_eq_true rfl) (Nat.le_of_ble_eq_true rfl) ⟨rfl, q_hpe (q_pdw [496] rfl rfl) (q_pdw [] rfl rfl)⟩
                · have hf := q_in h93 hf
                  refine q_blf 2 [] (a := q_kc (t, r, 0, 529, 539, (q_pE ext), (q_pR rx), L) I E 96 [some (.ref 492), some (.int x1), some (.int x2), some (.int r9), some (.int (x1 + (1 : Int32))), some (.int (1 : Int32))] [] [(496, (q_up (I 496) j92 (2 : Int32)))] []) (b := q_kc (t, r, 0, 529, 539, (q_pE ext), (q_pR rx), L) I E 94 [some (.ref 492), some (.int x1), some (.int x2), some (.int r9), some (.int (x1 + (1 : Int32))), some (.int (1 : Int32))] [] [(496, (q_up (I 496) j92 (2 : Int32)))] []) (P := ¬ r9 = (60 : Int32)) ok_X15_kindAt rfl q_cn (fun h97 => ?_) (fun h97 => ?_)
                  · have hf := q_ip h97 hf
                    refine q_blk 1 [] (c' := q_kc (t, r, 0, 529, 539, (q_pE ext), (q_pR rx), L) I E 97 [some (.ref 492), some (.int x1), some (.int x2), some (.int r9), some (.int (x1 + (1 : Int32))), some (.int (1 : Int32))] [.int (301 : Int32)] [(496, (q_up (I 496) j92 (2 : Int32)))] []) ok_X15_kindAt rfl q_cn ?_
                    cases hf
                    exact q_kri ok_X15_kindAt rfl rfl rfl (Nat.le_of_ble_eq_true rfl) (Nat.le_of_ble_eq_true rfl) ⟨rfl, q_hpe (q_pdw [496] rfl rfl) (q_pdw [] rfl rfl)⟩
                  · have hf := q_in h97 hf
                    refine q_blk 2 [] (c' := q_kc (t, r, 0, 529, 539, (q_pE ext), (q_pR rx), L) I E 97 [some (.ref 492), some (.int x1), some (.int x2), some (.int r9), some (.int (x1 + (1 : Int32))), some (.int (1 : Int32))] [.int (300 : Int32)] [(496, (q_up (I 496) j92 (2 : Int32)))] []) ok_X15_kindAt rfl q_cn ?_
                    cases hf
                    exact q_kri ok_X15_kindAt rfl rfl rfl (Nat.le_of_ble_eq_true rfl) (Nat.le_of_ble_eq_true rfl) ⟨rfl, q_hpe (q_pdw [496] rfl rfl) (q_pdw [] rfl rfl)⟩
      · have hf := q_in h26 hf
        obtain ⟨r98, hr98, hf⟩ := q_bd hf
        refine lp_X15_kindAt_L19_492_P (I := q_ws I []) (E := q_ws E []) hd (Nat.le_of_ble_eq_true rfl) (Nat.le_of_ble_eq_true rfl) 4096 hr98 ?_
        refine q_Jmrg (lI' := []) (lE' := []) (q_mgw rfl rfl) (q_mgw rfl rfl) ?_
        obtain ⟨j99, hj99, hf⟩ := q_bd hf
        refine q_blk 11 [j99] (c' := q_kc (t, r, 0, 529, 539, (q_pE ext), (q_pR rx), L) I E 45 [some (.ref 492), some (.int x1), some (.int x2), some (.int r9), some (.int r98), none] [.int r9, .int (r98 - x1)] [(496, (q_up (I 496) j99 (r98 - x1)))] []) ok_X15_kindAt rfl (q_cc hj99 q_cn) ?_
        obtain ⟨r100, hr100, hf⟩ := q_bd hf
        refine q_kS (M2 := m_X15_isLetter) (As := [.int r9]) (v2 := some (.int (q_bz r100))) ok_X15_kindAt ok_X15_isLetter cs_X15_isLetter (ct_X15_isLetter_P (d := 1) (Nat.le_refl _) hr100) rfl rfl (Or.inl rfl) (Nat.le_trans (Nat.le_of_ble_eq_true rfl) hd) (Nat.le_of_ble_eq_true rfl) (Nat.le_of_ble_eq_true rfl) (Nat.le_of_ble_eq_true rfl) (fun x hx => absurd hx List.not_mem_nil) (q_nmL0 _) (q_nmS0 _) rfl (pos' := 46) (st' := [.int (q_bz r100), .int (r98 - x1)]) (lI' := [(496, (q_up (I 496) j99 (r98 - x1)))]) (lE' := []) rfl rfl rfl rfl ?_
        refine q_blf 0 [] (a := q_kc (t, r, 0, 529, 539, (q_pE ext), (q_pR rx), L) I E 49 [some (.ref 492), some (.int x1), some (.int x2), some (.int r9), some (.int r98), none] [.int (r98 - x1)] [(496, (q_up (I 496) j99 (r98 - x1)))] []) (b := q_kc (t, r, 0, 529, 539, (q_pE ext), (q_pR rx), L) I E 47 [some (.ref 492), some (.int x1), some (.int x2), some (.int r9), some (.int r98), none] [.int (r98 - x1)] [(496, (q_up (I 496) j99 (r98 - x1)))] []) (P := (q_bz r100) = 0) ok_X15_kindAt rfl q_cn (fun h101 => ?_) (fun h101 => ?_)
        · have hf := q_ip h101 hf
          refine q_blf 1 [] (a := q_kc (t, r, 0, 529, 539, (q_pE ext), (q_pR rx), L) I E 53 [some (.ref 492), some (.int x1), some (.int x2), some (.int r9), some (.int r98), none] [] [(496, (q_up (I 496) j99 (r98 - x1)))] []) (b := q_kc (t, r, 0, 529, 539, (q_pE ext), (q_pR rx), L) I E 51 [some (.ref 492), some (.int x1), some (.int x2), some (.int r9), some (.int r98), none] [] [(496, (q_up (I 496) j99 (r98 - x1)))] []) (P := (r98 - x1) ≤ (6 : Int32)) ok_X15_kindAt rfl q_cn (fun h102 => ?_) (fun h102 => ?_)
          · have hf := q_ip h102 hf
            refine q_blk 1 [] (c' := q_kc (t, r, 0, 529, 539, (q_pE ext), (q_pR rx), L) I E 54 [some (.ref 492), some (.int x1), some (.int x2), some (.int r9), some (.int r98), none] [.int r9] [(496, (q_up (I 496) j99 (r98 - x1)))] []) ok_X15_kindAt rfl q_cn ?_
            obtain ⟨r103, hr103, hf⟩ := q_bd hf
            refine q_kS (M2 := m_X15_isLetter) (As := [.int r9]) (v2 := some (.int (q_bz r103))) ok_X15_kindAt ok_X15_isLetter cs_X15_isLetter (ct_X15_isLetter_P (d := 1) (Nat.le_refl _) hr103) rfl rfl (Or.inl rfl) (Nat.le_trans (Nat.le_of_ble_eq_true rfl) hd) (Nat.le_of_ble_eq_true rfl) (Nat.le_of_ble_eq_true rfl) (Nat.le_of_ble_eq_true rfl) (fun x hx => absurd hx List.not_mem_nil) (q_nmL0 _) (q_nmS0 _) rfl (pos' := 55) (st' := [.int (q_bz r103)]) (lI' := [(496, (q_up (I 496) j99 (r98 - x1)))]) (lE' := []) rfl rfl rfl rfl ?_
            refine q_blf 0 [] (a := q_kc (t, r, 0, 529, 539, (q_pE ext), (q_pR rx), L) I E 63 [some (.ref 492), some (.int x1), some (.int x2), some (.int r9), some (.int r98), none] [] [(496, (q_up (I 496) j99 (r98 - x1)))] []) (b := q_kc (t, r, 0, 529, 539, (q_pE ext), (q_pR rx), L) I E 56 [some (.ref 492), some (.int x1), some (.int x2), some (.int r9), some (.int r98), none] [] [(496, (q_up (I 496) j99 (r98 - x1)))] []) (P := (q_bz r103) = 0) ok_X15_kindAt rfl q_cn (fun h104 => ?_) (fun h104 => ?_)
            · have hf := q_ip h104 hf
              refine q_blk 1 [] (c' := q_kc (t, r, 0, 529, 539, (q_pE ext), (q_pR rx), L) I E 64 [some (.ref 492), some (.int x1), some (.int x2), some (.int r9), some (.int r98), none] [.int (41 : Int32)] [(496, (q_up (I 496) j99 (r98 - x1)))] []) ok_X15_kindAt rfl q_cn ?_
              cases hf
              exact q_kri ok_X15_kindAt rfl rfl rfl (Nat.le_of_ble_eq_true rfl) (Nat.le_of_ble_eq_true rfl) ⟨rfl, q_hpe (q_pdw [496] rfl rfl) (q_pdw [] rfl rfl)⟩
            · have hf := q_in h104 hf
              refine q_blk 5 [] (c' := q_kc (t, r, 0, 529, 539, (q_pE ext), (q_pR rx), L) I E 61 [some (.ref 492), some (.int x1), some (.int x2), some (.int r9), some (.int r98), none] [.int (r98 - x1), .int x1, .ref 492] [(496, (q_up (I 496) j99 (r98 - x1)))] []) ok_X15_kindAt rfl q_cn ?_
              obtain ⟨r105, hr105, hf⟩ := q_bd hf
              refine q_kV (M2 := m_X15_word) (As := [.int x1, .int (r98 - x1)]) (b := 492) (v2 := some (.int r105)) ok_X15_kindAt ok_X15_word cv_X15_word (ct_X15_word_492_P (d := 9) (Nat.le_refl _) hr105) rfl rfl (Or.inl rfl) rfl rfl rfl rfl (Nat.le_trans (Nat.le_of_ble_eq_true rfl) hd) (Nat.le_of_ble_eq_true rfl) (Nat.le_of_ble_eq_true rfl) (Nat.le_of_ble_eq_true rfl) (fun x hx => absurd hx List.not_mem_nil) (q_nmL0 _) (q_nmS0 _) rfl (pos' := 62) (st' := [.int r105]) (lI' := [(496, (q_up (I 496) j99 (r98 - x1)))]) (lE' := []) rfl rfl rfl rfl ?_
              refine q_blk 1 [] (c' := q_kc (t, r, 0, 529, 539, (q_pE ext), (q_pR rx), L) I E 64 [some (.ref 492), some (.int x1), some (.int x2), some (.int r9), some (.int r98), none] [.int r105] [(496, (q_up (I 496) j99 (r98 - x1)))] []) ok_X15_kindAt rfl q_cn ?_
              cases hf
              exact q_kri ok_X15_kindAt rfl rfl rfl (Nat.le_of_ble_eq_true rfl) (Nat.le_of_ble_eq_true rfl) ⟨rfl, q_hpe (q_pdw [496] rfl rfl) (q_pdw [] rfl rfl)⟩
          · have hf := q_in h102 hf
            refine q_blk 1 [] (c' := q_kc (t, r, 0, 529, 539, (q_pE ext), (q_pR rx), L) I E 52 [some (.ref 492), some (.int x1), some (.int x2), some (.int r9), some (.int r98), none] [.int (901 : Int32)] [(496, (q_up (I 496) j99 (r98 - x1)))] []) ok_X15_kindAt rfl q_cn ?_
            cases hf
            exact q_kri ok_X15_kindAt rfl rfl rfl (Nat.le_of_ble_eq_true rfl) (Nat.le_of_ble_eq_true rfl) ⟨rfl, q_hpe (q_pdw [496] rfl rfl) (q_pdw [] rfl rfl)⟩
        · have hf := q_in h101 hf
          refine q_blf 2 [] (a := q_kc (t, r, 0, 529, 539, (q_pE ext), (q_pR rx), L) I E 53 [some (.ref 492), some (.int x1), some (.int x2), some (.int r9), some (.int r98), none] [] [(496, (q_up (I 496) j99 (r98 - x1)))] []) (b := q_kc (t, r, 0, 529, 539, (q_pE ext), (q_pR rx), L) I E 51 [some (.ref 492), some (.int x1), some (.int x2), some (.int r9), some (.int r98), none] [] [(496, (q_up (I 496) j99 (r98 - x1)))] []) (P := (r98 - x1) ≤ (10 : Int32)) ok_X15_kindAt rfl q_cn (fun h106 => ?_) (fun h106 => ?_)
          · have hf := q_ip h106 hf
            refine q_blk 1 [] (c' := q_kc (t, r, 0, 529, 539, (q_pE ext), (q_pR rx), L) I E 54 [some (.ref 492), some (.int x1), some (.int x2), some (.int r9), some (.int r98), none] [.int r9] [(496, (q_up (I 496) j99 (r98 - x1)))] []) ok_X15_kindAt rfl q_cn ?_
            obtain ⟨r107, hr107, hf⟩ := q_bd hf
            refine q_kS (M2 := m_X15_isLetter) (As := [.int r9]) (v2 := some (.int (q_bz r107))) ok_X15_kindAt ok_X15_isLetter cs_X15_isLetter (ct_X15_isLetter_P (d := 1) (Nat.le_refl _) hr107) rfl rfl (Or.inl rfl) (Nat.le_trans (Nat.le_of_ble_eq_true rfl) hd) (Nat.le_of_ble_eq_true rfl) (Nat.le_of_ble_eq_true rfl) (Nat.le_of_ble_eq_true rfl) (fun x hx => absurd hx List.not_mem_nil) (q_nmL0 _) (q_nmS0 _) rfl (pos' := 55) (st' := [.int (q_bz r107)]) (lI' := [(496, (q_up (I 496) j99 (r98 - x1)))]) (lE' := []) rfl rfl rfl rfl ?_
            refine q_blf 0 [] (a := q_kc (t, r, 0, 529, 539, (q_pE ext), (q_pR rx), L) I E 63 [some (.ref 492), some (.int x1), some (.int x2), some (.int r9), some (.int r98), none] [] [(496, (q_up (I 496) j99 (r98 - x1)))] []) (b := q_kc (t, r, 0, 529, 539, (q_pE ext), (q_pR rx), L) I E 56 [some (.ref 492), some (.int x1), some (.int x2), some (.int r9), some (.int r98), none] [] [(496, (q_up (I 496) j99 (r98 - x1)))] []) (P := (q_bz r107) = 0) ok_X15_kindAt rfl q_cn (fun h108 => ?_) (fun h108 => ?_)
            · have hf := q_ip h108 hf
              refine q_blk 1 [] (c' := q_kc (t, r, 0, 529, 539, (q_pE ext), (q_pR rx), L) I E 64 [some (.ref 492), some (.int x1), some (.int x2), some (.int r9), some (.int r98), none] [.int (41 : Int32)] [(496, (q_up (I 496) j99 (r98 - x1)))] []) ok_X15_kindAt rfl q_cn ?_
              cases hf
              exact q_kri ok_X15_kindAt rfl rfl rfl (Nat.le_of_ble_eq_true rfl) (Nat.le_of_ble_eq_true rfl) ⟨rfl, q_hpe (q_pdw [496] rfl rfl) (q_pdw [] rfl rfl)⟩
            · have hf := q_in h108 hf
              refine q_blk 5 [] (c' := q_kc (t, r, 0, 529, 539, (q_pE ext), (q_pR rx), L) I E 61 [some (.ref 492), some (.int x1), some (.int x2), some (.int r9), some (.int r98), none] [.int (r98 - x1), .int x1, .ref 492] [(496, (q_up (I 496) j99 (r98 - x1)))] []) ok_X15_kindAt rfl q_cn ?_
              obtain ⟨r109, hr109, hf⟩ := q_bd hf
              refine q_kV (M2 := m_X15_word) (As := [.int x1, .int (r98 - x1)]) (b := 492) (v2 := some (.int r109)) ok_X15_kindAt ok_X15_word cv_X15_word (ct_X15_word_492_P (d := 9) (Nat.le_refl _) hr109) rfl rfl (Or.inl rfl) rfl rfl rfl rfl (Nat.le_trans (Nat.le_of_ble_eq_true rfl) hd) (Nat.le_of_ble_eq_true rfl) (Nat.le_of_ble_eq_true rfl) (Nat.le_of_ble_eq_true rfl) (fun x hx => absurd hx List.not_mem_nil) (q_nmL0 _) (q_nmS0 _) rfl (pos' := 62) (st' := [.int r109]) (lI' := [(496, (q_up (I 496) j99 (r98 - x1)))]) (lE' := []) rfl rfl rfl rfl ?_
              refine q_blk 1 [] (c' := q_kc (t, r, 0, 529, 539, (q_pE ext), (q_pR rx), L) I E 64 [some (.ref 492), some (.int x1), some (.int x2), some (.int r9), some (.int r98), none] [.int r109] [(496, (q_up (I 496) j99 (r98 - x1)))] []) ok_X15_kindAt rfl q_cn ?_
              cases hf
              exact q_kri ok_X15_kindAt rfl rfl rfl (Nat.le_of_ble_eq_true rfl) (Nat.le_of_ble_eq_true rfl) ⟨rfl, q_hpe (q_pdw [496] rfl rfl) (q_pdw [] rfl rfl)⟩
          · have hf := q_in h106 hf
            refine q_blk 1 [] (c' := q_kc (t, r, 0, 529, 539, (q_pE ext), (q_pR rx), L) I E 52 [some (.ref 492), some (.int x1), some (.int x2), some (.int r9), some (.int r98), none] [.int (901 : Int32)] [(496, (q_up (I 496) j99 (r98 - x1)))] []) ok_X15_kindAt rfl q_cn ?_
            cases hf
            exact q_kri ok_X15_kindAt rfl rfl rfl (Nat.le_of_ble_eq_true rfl) (Nat.le_of_ble_eq_true rfl) ⟨rfl, q_hpe (q_pdw [496] rfl rfl) (q_pdw [] rfl rfl)⟩
  · have hf := q_in h10 hf
    refine q_blk 1 [] (c' := q_kc (t, r, 0, 529, 539, (q_pE ext), (q_pR rx), L) I E 12 [some (.ref 492), some (.int x1), some (.int x2), some (.int r9), some (.int (x1 + (1 : Int32))), none] [.int (900 : Int32)] [] []) ok_X15_kindAt rfl q_cn ?_
    cases hf
    exact q_kri ok_X15_kindAt rfl rfl rfl (Nat.le_of_ble_eq_true rfl) (Nat.le_of_ble_eq_true rfl) ⟨rfl, q_hpe (q_pdw [496] rfl rfl) (q_pdw [] rfl rfl)⟩
