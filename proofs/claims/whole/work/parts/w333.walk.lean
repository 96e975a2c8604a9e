set_option maxHeartbeats 4000000 in
theorem lp_X15_cut_L7_492_P {g : q_G} {d mc ms : Nat} {h0 : q_H} {Q : (Option Value ⊕ String) → q_H → Prop} {k n : Nat} {t : Nat} {r : Nat} {ext : Nat → q_Sh} {rx : Nat → Nat → Option Nat} {L : Nat → Nat → Int64} (hd : 11 ≤ d) (hk : k ≤ mc) (hn : n ≤ ms)  {v2 : Int32} : ∀ (fu : Nat) {I : Nat → Nat → Int32} {E : Nat → Nat → Option Nat} {v1 : Int32} {r0 : Int32} (hf : f_X15_cut_L7 (I 492) (I 493) fu v1 = some r0) (hK0 : q_J g m_X15_cut d mc ms h0 [] Q k n (q_kc (t, r, 0, 529, 539, (q_pE ext), (q_pR rx), L) I E 19 [some (.ref 492), some (.int r0), some (.int v2)] [] [] [])), q_J g m_X15_cut d mc ms h0 [] Q k n (7, [some (.ref 492), some (.int v1), some (.int v2)], [], q_hp (t, r, 0, 529, 539, (q_pE ext), (q_pR rx), L) I E) := by
  intro fu
  induction fu with
  | zero =>
    intro I E v1 r0 hf hK0
    rw [f_X15_cut_L7] at hf
    cases hf
  | succ fu ih =>
    intro I E v1 r0 hf hK0
    rw [f_X15_cut_L7] at hf
    change q_J g m_X15_cut d mc ms h0 [] Q k n (q_kc (t, r, 0, 529, 539, (q_pE ext), (q_pR rx), L) I E 7 [some (.ref 492), some (.int v1), some (.int v2)] [] [] [])
    refine q_blk 2 [] (c' := q_kc (t, r, 0, 529, 539, (q_pE ext), (q_pR rx), L) I E 9 [some (.ref 492), some (.int v1), some (.int v2)] [.int v1, .ref 492] [] []) ok_X15_cut rfl q_cn ?_
    obtain ⟨r1, hr1, hf⟩ := q_bd hf
    refine q_kV (M2 := m_X15_byteOf) (As := [.int v1]) (b := 492) (v2 := some (.int r1)) ok_X15_cut ok_X15_byteOf cv_X15_byteOf (ct_X15_byteOf_492_P (d := 1) (Nat.le_refl _) hr1) rfl rfl (Or.inl rfl) rfl rfl rfl rfl (Nat.le_trans (Nat.le_of_ble_eq_true rfl) hd) hk hn (Nat.le_of_ble_eq_true rfl) (fun x hx => absurd hx List.not_mem_nil) (q_nmL0 _) (q_nmS0 _) rfl (pos' := 10) (st' := [.int r1]) (lI' := []) (lE' := []) rfl rfl rfl rfl ?_
    refine q_blf 1 [] (a := q_kc (t, r, 0, 529, 539, (q_pE ext), (q_pR rx), L) I E 17 [some (.ref 492), some (.int v1), some (.int v2)] [] [] []) (b := q_kc (t, r, 0, 529, 539, (q_pE ext), (q_pR rx), L) I E 12 [some (.ref 492), some (.int v1), some (.int v2)] [] [] []) (P := r1 = (32 : Int32)) ok_X15_cut rfl q_cn (fun h2 => ?_) (fun h2 => ?_)
    · have hf := q_ip h2 hf
      refine q_blk 2 [] (c' := q_kc (t, r, 0, 529, 539, (q_pE ext), (q_pR rx), L) I E 7 [some (.ref 492), some (.int (v1 + 1)), some (.int v2)] [] [] []) ok_X15_cut rfl q_cn ?_
      exact ih (I := q_ws I []) (E := q_ws E []) hf (q_Jmrg (q_mgw rfl rfl) (q_mgw rfl rfl) hK0)
    · have hf := q_in h2 hf
      refine q_blk 2 [] (c' := q_kc (t, r, 0, 529, 539, (q_pE ext), (q_pR rx), L) I E 14 [some (.ref 492), some (.int v1), some (.int v2)] [.int v1, .ref 492] [] []) ok_X15_cut rfl q_cn ?_
      obtain ⟨r3, hr3, hf⟩ := q_bd hf
      refine q_kV (M2 := m_X15_byteOf) (As := [.int v1]) (b := 492) (v2 := some (.int r3)) ok_X15_cut ok_X15_byteOf cv_X15_byteOf (ct_X15_byteOf_492_P (d := 1) (Nat.le_refl _) hr3) rfl rfl (Or.inl rfl) rfl rfl rfl rfl (Nat.le_trans (Nat.le_of_ble_eq_true rfl) hd) hk hn (Nat.le_of_ble_eq_true rfl) (fun x hx => absurd hx List.not_mem_nil) (q_nmL0 _) (q_nmS0 _) rfl (pos' := 15) (st' := [.int r3]) (lI' := []) (lE' := []) rfl rfl rfl rfl ?_
      refine q_blf 1 [] (a := q_kc (t, r, 0, 529, 539, (q_pE ext), (q_pR rx), L) I E 19 [some (.ref 492), some (.int v1), some (.int v2)] [] [] []) (b := q_kc (t, r, 0, 529, 539, (q_pE ext), (q_pR rx), L) I E 17 [some (.ref 492), some (.int v1), some (.int v2)] [] [] []) (P := ¬ r3 = (10 : Int32)) ok_X15_cut rfl q_cn (fun h4 => ?_) (fun h4 => ?_)
      · have hf := q_ip h4 hf
        cases hf
        exact q_Jpad (q_pdw [] rfl rfl) (q_pdw [] rfl rfl) hK0
      · have hf := q_in h4 hf
        refine q_blk 2 [] (c' := q_kc (t, r, 0, 529, 539, (q_pE ext), (q_pR rx), L) I E 7 [some (.ref 492), some (.int (v1 + 1)), some (.int v2)] [] [] []) ok_X15_cut rfl q_cn ?_
        exact ih (I := q_ws I []) (E := q_ws E []) hf (q_Jmrg (q_mgw rfl rfl) (q_mgw rfl rfl) hK0)
set_option maxHeartbeats 4000000 in
theorem lp_X15_cut_L4_492_P {g : q_G} {d mc ms : Nat} {h0 : q_H} {Q : (Option Value ⊕ String) → q_H → Prop} {k n : Nat} {t : Nat} {r : Nat} {ext : Nat → q_Sh} {rx : Nat → Nat → Option Nat} {L : Nat → Nat → Int64} (hd : 11 ≤ d) (hk : k ≤ mc) (hn : n ≤ ms)  : ∀ (fu : Nat) {I : Nat → Nat → Int32} {E : Nat → Nat → Option Nat} {v1 : Int32} {v2 : Int32} {r0 : Nat × (Nat → Int32) × (Nat → Int32) × (Nat → Int32) × (Nat → Int32) × (Nat → Int32)} (hf : f_X15_cut_L4 (I 492) (I 493) fu (I 494) (I 495) (I 496) (I 497) (I 498) v1 v2 = some r0) (hK0 : r0.1 = 0 → q_J g m_X15_cut d mc ms h0 [] Q k n (q_kc (t, r, 0, 529, 539, (q_pE ext), (q_pR rx), L) I E 72 [none, none, none] [] [(494, r0.2.1), (495, r0.2.2.1), (496, r0.2.2.2.1), (497, r0.2.2.2.2.1), (498, r0.2.2.2.2.2)] [])) (hK1 : r0.1 = 1 → q_J g m_X15_cut d mc ms h0 [] Q k n (q_kc (t, r, 0, 529, 539, (q_pE ext), (q_pR rx), L) I E 62 [none, none, none] [] [(494, r0.2.1), (495, r0.2.2.1), (496, r0.2.2.2.1), (497, r0.2.2.2.2.1), (498, r0.2.2.2.2.2)] [])), q_J g m_X15_cut d mc ms h0 [] Q k n (4, [some (.ref 492), some (.int v1), some (.int v2)], [], q_hp (t, r, 0, 529, 539, (q_pE ext), (q_pR rx), L) I E) := by
  intro fu
  induction fu with
  | zero =>
    intro I E v1 v2 r0 hf hK0 hK1
    rw [f_X15_cut_L4] at hf
    cases hf
  | succ fu ih =>
    intro I E v1 v2 r0 hf hK0 hK1
    rw [f_X15_cut_L4] at hf
    change q_J g m_X15_cut d mc ms h0 [] Q k n (q_kc (t, r, 0, 529, 539, (q_pE ext), (q_pR rx), L) I E 4 [some (.ref 492), some (.int v1), some (.int v2)] [] [] [])
    refine q_blf 2 [] (a := q_kc (t, r, 0, 529, 539, (q_pE ext), (q_pR rx), L) I E 72 [some (.ref 492), some (.int v1), some (.int v2)] [] [] []) (b := q_kc (t, r, 0, 529, 539, (q_pE ext), (q_pR rx), L) I E 7 [some (.ref 492), some (.int v1), some (.int v2)] [] [] []) (P := (400 : Int32) < v2) ok_X15_cut rfl q_cn (fun h5 => ?_) (fun h5 => ?_)
    · have hf := q_ip h5 hf
      refine q_less (ls' := [none, none, none]) (q_sb1 (q_sb1 (q_sb1 q_sb0))) ?_
      cases hf
      exact q_Jpad (q_pdw [494, 495, 496, 497, 498] rfl rfl) (q_pdw [] rfl rfl) (hK0 rfl)
    · have hf := q_in h5 hf
      obtain ⟨r6, hr6, hf⟩ := q_bd hf
      refine lp_X15_cut_L7_492_P (I := q_ws I []) (E := q_ws E []) hd hk hn 4096 hr6 ?_
      refine q_Jmrg (lI' := []) (lE' := []) (q_mgw rfl rfl) (q_mgw rfl rfl) ?_
      obtain ⟨j7, hj7, hf⟩ := q_bd hf
      obtain ⟨j8, hj8, hf⟩ := q_bd hf
      obtain ⟨j9, hj9, hf⟩ := q_bd hf
      refine q_blk 21 [j7, j8, j9] (c' := q_kc (t, r, 0, 529, 539, (q_pE ext), (q_pR rx), L) I E 40 [some (.ref 492), some (.int r6), some (.int v2)] [.int v2, .int r6, .ref 492, .int v2, .ref 494] [(495, (q_up (I 495) j7 r6)), (497, (q_up (I 497) j8 (0 : Int32))), (498, (q_up (I 498) j9 (0 : Int32)))] []) ok_X15_cut rfl (q_cc hj9 (q_cc hj8 (q_cc hj7 q_cn))) ?_
      obtain ⟨r10, hr10, hf⟩ := q_bd hf
      refine q_kV (M2 := m_X15_kindAt) (As := [.int r6, .int v2]) (b := 492) (v2 := some (.int r10.1)) ok_X15_cut ok_X15_kindAt cv_X15_kindAt (ct_X15_kindAt_492_P (d := 10) (Nat.le_refl _) hr10) rfl rfl (Or.inl rfl) rfl rfl rfl rfl (Nat.le_trans (Nat.le_of_ble_eq_true rfl) hd) hk hn (Nat.le_of_ble_eq_true rfl) (fun x hx => absurd hx List.not_mem_nil) (q_nmL0 _) (q_nmS0 _) rfl (pos' := 41) (st' := [.int r10.1, .int v2, .ref 494]) (lI' := [(495, (q_up (I 495) j7 r6)), (496, r10.2), (497, (q_up (I 497) j8 (0 : Int32))), (498, (q_up (I 498) j9 (0 : Int32)))]) (lE' := []) rfl rfl (q_mgw rfl rfl) rfl ?_
      obtain ⟨j11, hj11, hf⟩ := q_bd hf
      refine q_blf 3 [j11] (a := q_kc (t, r, 0, 529, 539, (q_pE ext), (q_pR rx), L) I E 56 [some (.ref 492), some (.int r6), some (.int v2)] [] [(494, (q_up (I 494) j11 r10.1)), (495, (q_up (I 495) j7 r6)), (496, r10.2), (497, (q_up (I 497) j8 (0 : Int32))), (498, (q_up (I 498) j9 (0 : Int32)))] []) (b := q_kc (t, r, 0, 529, 539, (q_pE ext), (q_pR rx), L) I E 45 [some (.ref 492), some (.int r6), some (.int v2)] [] [(494, (q_up (I 494) j11 r10.1)), (495, (q_up (I 495) j7 r6)), (496, r10.2), (497, (q_up (I 497) j8 (0 : Int32))), (498, (q_up (I 498) j9 (0 : Int32)))] []) (P := ¬ v2 = (400 : Int32)) ok_X15_cut rfl (q_cc hj11 q_cn) (fun h12 => ?_) (fun h12 => ?_)
      · have hf := q_ip h12 hf
        obtain ⟨j13, hj13, hf⟩ := q_bd hf
        refine q_blf 5 [j13] (a := q_kc (t, r, 0, 529, 539, (q_pE ext), (q_pR rx), L) I E 63 [some (.ref 492), some (.int r6), some (.int v2)] [] [(494, (q_up (I 494) j11 r10.1)), (495, (q_up (I 495) j7 r6)), (496, r10.2), (497, (q_up (I 497) j8 (0 : Int32))), (498, (q_up (I 498) j9 (0 : Int32)))] []) (b := q_kc (t, r, 0, 529, 539, (q_pE ext), (q_pR rx), L) I E 62 [some (.ref 492), some (.int r6), some (.int v2)] [] [(494, (q_up (I 494) j11 r10.1)), (495, (q_up (I 495) j7 r6)), (496, r10.2), (497, (q_up (I 497) j8 (0 : Int32))), (498, (q_up (I 498) j9 (0 : Int32)))] []) (P := ((q_up (I 494) j11 r10.1) j13) < (900 : Int32)) ok_X15_cut rfl (q_cc hj13 q_cn) (fun h14 => ?_) (fun h14 => ?_)
        · have hf := q_ip h14 hf
          obtain ⟨j15, hj15, hf⟩ := q_bd hf
          refine q_blk 9 [j15] (c' := q_kc (t, r, 0, 529, 539, (q_pE ext), (q_pR rx), L) I E 4 [some (.ref 492), some (.int (r6 + (r10.2 j15))), some (.int (v2 + 1))] [] [(494, (q_up (I 494) j11 r10.1)), (495, (q_up (I 495) j7 r6)), (496, r10.2), (497, (q_up (I 497) j8 (0 : Int32))), (498, (q_up (I 498) j9 (0 : Int32)))] []) ok_X15_cut rfl (q_cc hj15 q_cn) ?_
          exact ih (I := q_ws I [(494, (q_up (I 494) j11 r10.1)), (495, (q_up (I 495) j7 r6)), (496, r10.2), (497, (q_up (I 497) j8 (0 : Int32))), (498, (q_up (I 498) j9 (0 : Int32)))]) (E := q_ws E []) hf (fun hz => q_Jmrg (q_mgw rfl rfl) (q_mgw rfl rfl) (hK0 hz)) (fun hz => q_Jmrg (q_mgw rfl rfl) (q_mgw rfl rfl) (hK1 hz))
        · have hf := q_in h14 hf
          refine q_less (ls' := [none, none, none]) (q_sb1 (q_sb1 (q_sb1 q_sb0))) ?_
          cases hf
          exact q_Jpad (q_pdw [494, 495, 496, 497, 498] rfl rfl) (q_pdw [] rfl rfl) (hK1 rfl)
      · have hf := q_in h12 hf
        obtain ⟨j16, hj16, hf⟩ := q_bd hf
        refine q_blf 5 [j16] (a := q_kc (t, r, 0, 529, 539, (q_pE ext), (q_pR rx), L) I E 56 [some (.ref 492), some (.int r6), some (.int v2)] [] [(494, (q_up (I 494) j11 r10.1)), (495, (q_up (I 495) j7 r6)), (496, r10.2), (497, (q_up (I 497) j8 (0 : Int32))), (498, (q_up (I 498) j9 (0 : Int32)))] []) (b := q_kc (t, r, 0, 529, 539, (q_pE ext), (q_pR rx), L) I E 51 [some (.ref 492), some (.int r6), some (.int v2)] [] [(494, (q_up (I 494) j11 r10.1)), (495, (q_up (I 495) j7 r6)), (496, r10.2), (497, (q_up (I 497) j8 (0 : Int32))), (498, (q_up (I 498) j9 (0 : Int32)))] []) (P := ((q_up (I 494) j11 r10.1) j16) = (900 : Int32)) ok_X15_cut rfl (q_cc hj16 q_cn) (fun h17 => ?_) (fun h17 => ?_)
        · have hf := q_ip h17 hf
          obtain ⟨j18, hj18, hf⟩ := q_bd hf
          refine q_blf 5 [j18] (a := q_kc (t, r, 0, 529, 539, (q_pE ext), (q_pR rx), L) I E 63 [some (.ref 492), some (.int r6), some (.int v2)] [] [(494, (q_up (I 494) j11 r10.1)), (495, (q_up (I 495) j7 r6)), (496, r10.2), (497, (q_up (I 497) j8 (0 : Int32))), (498, (q_up (I 498) j9 (0 : Int32)))] []) (b := q_kc (t, r, 0, 529, 539, (q_pE ext), (q_pR rx), L) I E 62 [some (.ref 492), some (.int r6), some (.int v2)] [] [(494, (q_up (I 494) j11 r10.1)), (495, (q_up (I 495) j7 r6)), (496, r10.2), (497, (q_up (I 497) j8 (0 : Int32))), (498, (q_up (I 498) j9 (0 : Int32)))] []) (P := ((q_up (I 494) j11 r10.1) j18) < (900 : Int32)) ok_X15_cut rfl (q_cc hj18 q_cn) (fun h19 => ?_) (fun h19 => ?_)
          · have hf := q_ip h19 hf
            obtain ⟨j20, hj20, hf⟩ := q_bd hf
            refine q_blk 9 [j20] (c' := q_kc (t, r, 0, 529, 539, (q_pE ext), (q_pR rx), L) I E 4 [some (.ref 492), some (.int (r6 + (r10.2 j20))), some (.int (v2 + 1))] [] [(494, (q_up (I 494) j11 r10.1)), (495, (q_up (I 495) j7 r6)), (496, r10.2), (497, (q_up (I 497) j8 (0 : Int32))), (498, (q_up (I 498) j9 (0 : Int32)))] []) ok_X15_cut rfl (q_cc hj20 q_cn) ?_
            exact ih (I := q_ws I [(494, (q_up (I 494) j11 r10.1)), (495, (q_up (I 495) j7 r6)), (496, r10.2), (497, (q_up (I 497) j8 (0 : Int32))), (498, (q_up (I 498) j9 (0 : Int32)))]) (E := q_ws E []) hf (fun hz => q_Jmrg (q_mgw rfl rfl) (q_mgw rfl rfl) (hK0 hz)) (fun hz => q_Jmrg (q_mgw rfl rfl) (q_mgw rfl rfl) (hK1 hz))
          · have hf := q_in h19 hf
            refine q_less (ls' := [none, none, none]) (q_sb1 (q_sb1 (q_sb1 q_sb0))) ?_
            cases hf
            exact q_Jpad (q_pdw [494, 495, 496, 497, 498] rfl rfl) (q_pdw [] rfl rfl) (hK1 rfl)
        · have hf := q_in h17 hf
          obtain ⟨j21, hj21, hf⟩ := q_bd hf
          obtain ⟨j22, hj22, hf⟩ := q_bd hf
          refine q_blf 10 [j21, j22] (a := q_kc (t, r, 0, 529, 539, (q_pE ext), (q_pR rx), L) I E 63 [some (.ref 492), some (.int r6), some (.int v2)] [] [(494, (q_up (q_up (I 494) j11 r10.1) j21 (901 : Int32))), (495, (q_up (I 495) j7 r6)), (496, r10.2), (497, (q_up (I 497) j8 (0 : Int32))), (498, (q_up (I 498) j9 (0 : Int32)))] []) (b := q_kc (t, r, 0, 529, 539, (q_pE ext), (q_pR rx), L) I E 62 [some (.ref 492), some (.int r6), some (.int v2)] [] [(494, (q_up (q_up (I 494) j11 r10.1) j21 (901 : Int32))), (495, (q_up (I 495) j7 r6)), (496, r10.2), (497, (q_up (I 497) j8 (0 : Int32))), (498, (q_up (I 498) j9 (0 : Int32)))] []) (P := ((q_up (q_up (I 494) j11 r10.1) j21 (901 : Int32)) j22) < (900 : Int32)) ok_X15_cut rfl (q_cc hj22 (q_cc hj21 q_cn)) (fun h23 => ?_) (fun h23 => ?_)
          · have hf := q_ip h23 hf
            obtain ⟨j24, hj24, hf⟩ := q_bd hf
            refine q_blk 9 [j24] (c' := q_kc (t, r, 0, 529, 539, (q_pE ext), (q_pR rx), L) I E 4 [some (.ref 492), some (.int (r6 + (r10.2 j24))), some (.int (v2 + 1))] [] [(494, (q_up (q_up (I 494) j11 r10.1) j21 (901 : Int32))), (495, (q_up (I 495) j7 r6)), (496, r10.2), (497, (q_up (I 497) j8 (0 : Int32))), (498, (q_up (I 498) j9 (0 : Int32)))] []) ok_X15_cut rfl (q_cc hj24 q_cn) ?_
            exact ih (I := q_ws I [(494, (q_up (q_up (I 494) j11 r10.1) j21 (901 : Int32))), (495, (q_up (I 495) j7 r6)), (496, r10.2), (497, (q_up (I 497) j8 (0 : Int32))), (498, (q_up (I 498) j9 (0 : Int32)))]) (E := q_ws E []) hf (fun hz => q_Jmrg (q_mgw rfl rfl) (q_mgw rfl rfl) (hK0 hz)) (fun hz => q_Jmrg (q_mgw rfl rfl) (q_mgw rfl rfl) (hK1 hz))
          · have hf := q_in h23 hf
            refine q_less (ls' := [none, none, none]) (q_sb1 (q_sb1 (q_sb1 q_sb0))) ?_
            cases hf
            exact q_Jpad (q_pdw [494, 495, 496, 497, 498] rfl rfl) (q_pdw [] rfl rfl) (hK1 rfl)
set_option maxHeartbeats 4000000 in
theorem ct_X15_cut_492_P {g : q_G} {t : Nat} {r : Nat} {ext : Nat → q_Sh} {rx : Nat → Nat → Option Nat} {L : Nat → Nat → Int64} {d : Nat} (hd : 11 ≤ d)  {I : Nat → Nat → Int32} {E : Nat → Nat → Option Nat} {r0 : (Nat → Int32) × (Nat → Int32) × (Nat → Int32) × (Nat → Int32) × (Nat → Int32)} (hf : f_X15_cut (I 492) (I 493) (I 494) (I 495) (I 496) (I 497) (I 498) = some r0) : q_Ct g m_X15_cut d 0 0 [] [.ref 492] (q_hp (t, r, 0, 529, 539, (q_pE ext), (q_pR rx), L) I E) (fun o h' => o = .inl none ∧ h' = q_hp (t, r, 0, 529, 539, (q_pE ext), (q_pR rx), L) (q_ws I [(494, r0.1), (495, r0.2.1), (496, r0.2.2.1), (497, r0.2.2.2.1), (498, r0.2.2.2.2)]) (q_ws E [])) := by
  rw [f_X15_cut] at hf
  refine q_Ct_of ok_X15_cut (Nat.le_of_ble_eq_true rfl) ?_ _ rfl rfl
  change q_J g m_X15_cut d 0 0 _ [] _ 0 0 (q_kc (t, r, 0, 529, 539, (q_pE ext), (q_pR rx), L) I E 0 [some (.ref 492), none, none] [] [] [])
  refine q_blk 4 [] (c' := q_kc (t, r, 0, 529, 539, (q_pE ext), (q_pR rx), L) I E 4 [some (.ref 492), some (.int (0 : Int32)), some (.int (0 : Int32))] [] [] []) ok_X15_cut rfl q_cn ?_
  obtain ⟨r25, hr25, hf⟩ := q_bd hf
  refine lp_X15_cut_L4_492_P (I := q_ws I []) (E := q_ws E []) hd (Nat.le_of_ble_eq_true rfl) (Nat.le_of_ble_eq_true rfl) 4096 hr25 ?_ ?_
  · intro hz0
    have hf := q_ip hz0 hf
    refine q_Jmrg (lI' := [(494, r25.2.1), (495, r25.2.2.1), (496, r25.2.2.2.1), (497, r25.2.2.2.2.1), (498, r25.2.2.2.2.2)]) (lE' := []) (q_mgw rfl rfl) (q_mgw rfl rfl) ?_
    cases hf
    exact q_krv ok_X15_cut rfl rfl (Nat.le_of_ble_eq_true rfl) (Nat.le_of_ble_eq_true rfl) ⟨rfl, q_hpe (q_pdw [494, 495, 496, 497, 498] rfl rfl) (q_pdw [] rfl rfl)⟩
  · intro hz1
    have hf := q_in (fun h9 => absurd (hz1.symm.trans h9) (by decide)) hf
    refine q_Jmrg (lI' := [(494, r25.2.1), (495, r25.2.2.1), (496, r25.2.2.2.1), (497, r25.2.2.2.2.1), (498, r25.2.2.2.2.2)]) (lE' := []) (q_mgw rfl rfl) (q_mgw rfl rfl) ?_
    cases hf
    exact q_krv ok_X15_cut rfl rfl (Nat.le_of_ble_eq_true rfl) (Nat.le_of_ble_eq_true rfl) ⟨rfl, q_hpe (q_pdw [494, 495, 496, 497, 498] rfl rfl) (q_pdw [] rfl rfl)⟩
set_option maxHeartbeats 4000000 in
theorem ct_X15_is_492_P {g : q_G} {t : Nat} {r : Nat} {ext : Nat → q_Sh} {rx : Nat → Nat → Option Nat} {L : Nat → Nat → Int64} {d : Nat} (hd : 1 ≤ d)  {I : Nat → Nat → Int32} {E : Nat → Nat → Option Nat} {x1 : Int32} {r0 : Bool} (hf : f_X15_is (I 492) (I 494) x1 = some r0) : q_Ct g m_X15_is d 0 0 [] [.ref 492, .int x1] (q_hp (t, r, 0, 529, 539, (q_pE ext), (q_pR rx), L) I E) (fun o h' => o = .inl (some (.int (q_bz r0))) ∧ h' = q_hp (t, r, 0, 529, 539, (q_pE ext), (q_pR rx), L) (q_ws I []) (q_ws E [])) := by
  rw [f_X15_is] at hf
  refine q_Ct_of ok_X15_is (Nat.le_of_ble_eq_true rfl) ?_ _ rfl rfl
  change q_J g m_X15_is d 0 0 _ [] _ 0 0 (q_kc (t, r, 0, 529, 539, (q_pE ext), (q_pR rx), L) I E 0 [some (.ref 492), some (.int x1)] [] [] [])
  obtain ⟨j1, hj1, hf⟩ := q_bd hf
  refine q_blf 6 [j1] (a := q_kc (t, r, 0, 529, 539, (q_pE ext), (q_pR rx), L) I E 9 [some (.ref 492), some (.int x1)] [] [] []) (b := q_kc (t, r, 0, 529, 539, (q_pE ext), (q_pR rx), L) I E 7 [some (.ref 492), some (.int x1)] [] [] []) (P := ¬ ((I 494) j1) = x1) ok_X15_is rfl (q_cc hj1 q_cn) (fun h2 => ?_) (fun h2 => ?_)
  · have hf := q_ip h2 hf
    refine q_blk 1 [] (c' := q_kc (t, r, 0, 529, 539, (q_pE ext), (q_pR rx), L) I E 10 [some (.ref 492), some (.int x1)] [.int (0 : Int32)] [] []) ok_X15_is rfl q_cn ?_
    cases hf
    exact q_kri ok_X15_is rfl rfl rfl (Nat.le_of_ble_eq_true rfl) (Nat.le_of_ble_eq_true rfl) ⟨rfl, q_hpe (q_pdw [] rfl rfl) (q_pdw [] rfl rfl)⟩
  · have hf := q_in h2 hf
    refine q_blk 2 [] (c' := q_kc (t, r, 0, 529, 539, (q_pE ext), (q_pR rx), L) I E 10 [some (.ref 492), some (.int x1)] [.int (1 : Int32)] [] []) ok_X15_is rfl q_cn ?_
    cases hf
    exact q_kri ok_X15_is rfl rfl rfl (Nat.le_of_ble_eq_true rfl) (Nat.le_of_ble_eq_true rfl) ⟨rfl, q_hpe (q_pdw [] rfl rfl) (q_pdw [] rfl rfl)⟩
set_option maxHeartbeats 4000000 in
theorem ct_X15_isSign_492_P {g : q_G} {t : Nat} {r : Nat} {ext : Nat → q_Sh} {rx : Nat → Nat → Option Nat} {L : Nat → Nat → Int64} {d : Nat} (hd : 1 ≤ d)  {I : Nat → Nat → Int32} {E : Nat → Nat → Option Nat} {x1 : Int32} {r0 : Bool} (hf : f_X15_isSign (I 492) (I 494) x1 = some r0) : q_Ct g m_X15_isSign d 0 0 [] [.ref 492, .int x1] (q_hp (t, r, 0, 529, 539, (q_pE ext), (q_pR rx), L) I E) (fun o h' => o = .inl (some (.int (q_bz r0))) ∧ h' = q_hp (t, r, 0, 529, 539, (q_pE ext), (q_pR rx), L) (q_ws I []) (q_ws E [])) := by
  rw [f_X15_isSign] at hf
  refine q_Ct_of ok_X15_isSign (Nat.le_of_ble_eq_true rfl) ?_ _ rfl rfl
  change q_J g m_X15_isSign d 0 0 _ [] _ 0 0 (q_kc (t, r, 0, 529, 539, (q_pE ext), (q_pR rx), L) I E 0 [some (.ref 492), some (.int x1)] [] [] [])
  obtain ⟨j1, hj1, hf⟩ := q_bd hf
  refine q_blf 8 [j1] (a := q_kc (t, r, 0, 529, 539, (q_pE ext), (q_pR rx), L) I E 11 [some (.ref 492), some (.int x1)] [] [] []) (b := q_kc (t, r, 0, 529, 539, (q_pE ext), (q_pR rx), L) I E 9 [some (.ref 492), some (.int x1)] [] [] []) (P := ¬ ((I 494) j1) = ((50 : Int32) + x1)) ok_X15_isSign rfl (q_cc hj1 q_cn) (fun h2 => ?_) (fun h2 => ?_)
  · have hf := q_ip h2 hf
    refine q_blk 1 [] (c' := q_kc (t, r, 0, 529, 539, (q_pE ext), (q_pR rx), L) I E 12 [some (.ref 492), some (.int x1)] [.int (0 : Int32)] [] []) ok_X15_isSign rfl q_cn ?_
    cases hf
    exact q_kri ok_X15_isSign rfl rfl rfl (Nat.le_of_ble_eq_true rfl) (Nat.le_of_ble_eq_true rfl) ⟨rfl, q_hpe (q_pdw [] rfl rfl) (q_pdw [] rfl rfl)⟩
  · have hf := q_in h2 hf
    refine q_blk 2 [] (c' := q_kc (t, r, 0, 529, 539, (q_pE ext), (q_pR rx), L) I E 12 [some (.ref 492), some (.int x1)] [.int (1 : Int32)] [] []) ok_X15_isSign rfl q_cn ?_
    cases hf
    exact q_kri ok_X15_isSign rfl rfl rfl (Nat.le_of_ble_eq_true rfl) (Nat.le_of_ble_eq_true rfl) ⟨rfl, q_hpe (q_pdw [] rfl rfl) (q_pdw [] rfl rfl)⟩
set_option maxHeartbeats 4000000 in
theorem ct_X15_isDeeper_492_P {g : q_G} {t : Nat} {r : Nat} {ext : Nat → q_Sh} {rx : Nat → Nat → Option Nat} {L : Nat → Nat → Int64} {d : Nat} (hd : 1 ≤ d)  {I : Nat → Nat → Int32} {E : Nat → Nat → Option Nat} {r0 : Bool × (Nat → Int32)} (hf : f_X15_isDeeper (I 492) = some r0) : q_Ct g m_X15_isDeeper d 0 0 [] [.ref 492] (q_hp (t, r, 0, 529, 539, (q_pE ext), (q_pR rx), L) I E) (fun o h' => o = .inl (some (.int (q_bz r0.1))) ∧ h' = q_hp (t, r, 0, 529, 539, (q_pE ext), (q_pR rx), L) (q_ws I [(492, r0.2)]) (q_ws E [])) := by
  rw [f_X15_isDeeper] at hf
  refine q_Ct_of ok_X15_isDeeper (Nat.le_of_ble_eq_true rfl) ?_ _ rfl rfl
  change q_J g m_X15_isDeeper d 0 0 _ [] _ 0 0 (q_kc (t, r, 0, 529, 539, (q_pE ext), (q_pR rx), L) I E 0 [some (.ref 492)] [] [] [])
  refine q_blf 3 [] (a := q_kc (t, r, 0, 529, 539, (q_pE ext), (q_pR rx), L) I E 6 [some (.ref 492)] [] [] []) (b := q_kc (t, r, 0, 529, 539, (q_pE ext), (q_pR rx), L) I E 4 [some (.ref 492)] [] [] []) (P := ¬ ((I 492) 10) = (8 : Int32)) ok_X15_isDeeper rfl q_cn (fun h1 => ?_) (fun h1 => ?_)
  · have hf := q_ip h1 hf
    refine q_blk 13 [] (c' := q_kc (t, r, 0, 529, 539, (q_pE ext), (q_pR rx), L) I E 19 [some (.ref 492)] [.int (1 : Int32)] [(492, (q_up (q_up (I 492) 10 (((I 492) 10) + (1 : Int32))) 9 (((q_up (I 492) 10 (((I 492) 10) + (1 : Int32))) 9) + (1 : Int32))))] []) ok_X15_isDeeper rfl q_cn ?_
    cases hf
    exact q_kri ok_X15_isDeeper rfl rfl rfl (Nat.le_of_ble_eq_true rfl) (Nat.le_of_ble_eq_true rfl) ⟨rfl, q_hpe (q_pdw [492] rfl rfl) (q_pdw [] rfl rfl)⟩
  · have hf := q_in h1 hf
    refine q_blk 1 [] (c' := q_kc (t, r, 0, 529, 539, (q_pE ext), (q_pR rx), L) I E 5 [some (.ref 492)] [.int (0 : Int32)] [] []) ok_X15_isDeeper rfl q_cn ?_
    cases hf
    exact q_kri ok_X15_isDeeper rfl rfl rfl (Nat.le_of_ble_eq_true rfl) (Nat.le_of_ble_eq_true rfl) ⟨rfl, q_hpe (q_pdw [492] rfl rfl) (q_pdw [] rfl rfl)⟩
set_option maxHeartbeats 4000000 in
theorem ct_X15_eat_492_P {g : q_G} {t : Nat} {r : Nat} {ext : Nat → q_Sh} {rx : Nat → Nat → Option Nat} {L : Nat → Nat → Int64} {d : Nat} (hd : 2 ≤ d)  {I : Nat → Nat → Int32} {E : Nat → Nat → Option Nat} {x1 : Int32} {r0 : Bool × (Nat → Int32)} (hf : f_X15_eat (I 492) (I 494) x1 = some r0) : q_Ct g m_X15_eat d 0 0 [] [.ref 492, .int x1] (q_hp (t, r, 0, 529, 539, (q_pE ext), (q_pR rx), L) I E) (fun o h' => o = .inl (some (.int (q_bz r0.1))) ∧ h' = q_hp (t, r, 0, 529, 539, (q_pE ext), (q_pR rx), L) (q_ws I [(492, r0.2)]) (q_ws E [])) := by
  rw [f_X15_eat] at hf
  refine q_Ct_of ok_X15_eat (Nat.le_of_ble_eq_true rfl) ?_ _ rfl rfl
  change q_J g m_X15_eat d 0 0 _ [] _ 0 0 (q_kc (t, r, 0, 529, 539, (q_pE ext), (q_pR rx), L) I E 0 [some (.ref 492), some (.int x1)] [] [] [])
  refine q_blk 2 [] (c' := q_kc (t, r, 0, 529, 539, (q_pE ext), (q_pR rx), L) I E 2 [some (.ref 492), some (.int x1)] [.int x1, .ref 492] [] []) ok_X15_eat rfl q_cn ?_
  obtain ⟨r1, hr1, hf⟩ := q_bd hf
  refine q_kV (M2 := m_X15_is) (As := [.int x1]) (b := 492) (v2 := some (.int (q_bz r1))) ok_X15_eat ok_X15_is cv_X15_is (ct_X15_is_492_P (d := 1) (Nat.le_refl _) hr1) rfl rfl (Or.inl rfl) rfl rfl rfl rfl (Nat.le_trans (Nat.le_of_ble_eq_true rfl) hd) (Nat.le_of_ble_eq_true rfl) (Nat.le_of_ble_eq_true rfl) (Nat.le_of_ble_eq_true rfl) (fun x hx => absurd hx List.not_mem_nil) (q_nmL0 _) (q_nmS0 _) rfl (pos' := 3) (st' := [.int (q_bz r1)]) (lI' := []) (lE' := []) rfl rfl rfl rfl ?_
  refine q_blf 0 [] (a := q_kc (t, r, 0, 529, 539, (q_pE ext), (q_pR rx), L) I E 6 [some (.ref 492), some (.int x1)] [] [] []) (b := q_kc (t, r, 0, 529, 539, (q_pE ext), (q_pR rx), L) I E 4 [some (.ref 492), some (.int x1)] [] [] []) (P := ¬ (q_bz r1) = 0) ok_X15_eat rfl q_cn (fun h2 => ?_) (fun h2 => ?_)
  · have hf := q_ip h2 hf
    refine q_blk 7 [] (c' := q_kc (t, r, 0, 529, 539, (q_pE ext), (q_pR rx), L) I E 13 [some (.ref 492), some (.int x1)] [.int (1 : Int32)] [(492, (q_up (I 492) 9 (((I 492) 9) + (1 : Int32))))] []) ok_X15_eat rfl q_cn ?_
    cases hf
    exact q_kri ok_X15_eat rfl rfl rfl (Nat.le_of_ble_eq_true rfl) (Nat.le_of_ble_eq_true rfl) ⟨rfl, q_hpe (q_pdw [492] rfl rfl) (q_pdw [] rfl rfl)⟩
  · have hf := q_in h2 hf
    refine q_blk 1 [] (c' := q_kc (t, r, 0, 529, 539, (q_pE ext), (q_pR rx), L) I E 5 [some (.ref 492), some (.int x1)] [.int (0 : Int32)] [] []) ok_X15_eat rfl q_cn ?_
    cases hf
    exact q_kri ok_X15_eat rfl rfl rfl (Nat.le_of_ble_eq_true rfl) (Nat.le_of_ble_eq_true rfl) ⟨rfl, q_hpe (q_pdw [492] rfl rfl) (q_pdw [] rfl rfl)⟩
set_option maxHeartbeats 4000000 in
theorem ct_X15_eatSign_492_P {g : q_G} {t : Nat} {r : Nat} {ext : Nat → q_Sh} {rx : Nat → Nat → Option Nat} {L : Nat → Nat → Int64} {d : Nat} (hd : 3 ≤ d)  {I : Nat → Nat → Int32} {E : Nat → Nat → Option Nat} {x1 : Int32} {r0 : Bool × (Nat → Int32)} (hf : f_X15_eatSign (I 492) (I 494) x1 = some r0) : q_Ct g m_X15_eatSign d 0 0 [] [.ref 492, .int x1] (q_hp (t, r, 0, 529, 539, (q_pE ext), (q_pR rx), L) I E) (fun o h' => o = .inl (some (.int (q_bz r0.1))) ∧ h' = q_hp (t, r, 0, 529, 539, (q_pE ext), (q_pR rx), L) (q_ws I [(492, r0.2)]) (q_ws E [])) := by
  rw [f_X15_eatSign] at hf
  refine q_Ct_of ok_X15_eatSign (Nat.le_of_ble_eq_true rfl) ?_ _ rfl rfl
  change q_J g m_X15_eatSign d 0 0 _ [] _ 0 0 (q_kc (t, r, 0, 529, 539, (q_pE ext), (q_pR rx), L) I E 0 [some (.ref 492), some (.int x1)] [] [] [])
  refine q_blk 4 [] (c' := q_kc (t, r, 0, 529, 539, (q_pE ext), (q_pR rx), L) I E 4 [some (.ref 492), some (.int x1)] [.int ((50 : Int32) + x1), .ref 492] [] []) ok_X15_eatSign rfl q_cn ?_
  obtain ⟨r1, hr1, hf⟩ := q_bd hf
  refine q_kV (M2 := m_X15_eat) (As := [.int ((50 : Int32) + x1)]) (b := 492) (v2 := some (.int (q_bz r1.1))) ok_X15_eatSign ok_X15_eat cv_X15_eat (ct_X15_eat_492_P (d := 2) (Nat.le_refl _) hr1) rfl rfl (Or.inl rfl) rfl rfl rfl rfl (Nat.le_trans (Nat.le_of_ble_eq_true rfl) hd) (Nat.le_of_ble_eq_true rfl) (Nat.le_of_ble_eq_true rfl) (Nat.le_of_ble_eq_true rfl) (fun x hx => absurd hx List.not_mem_nil) (q_nmL0 _) (q_nmS0 _) rfl (pos' := 5) (st' := [.int (q_bz r1.1)]) (lI' := [(492, r1.2)]) (lE' := []) rfl rfl (q_mgw rfl rfl) rfl ?_
  cases hf
  exact q_kri ok_X15_eatSign rfl rfl (q_bz_nr _) (Nat.le_of_ble_eq_true rfl) (Nat.le_of_ble_eq_true rfl) ⟨rfl, q_hpe (q_pdw [492] rfl rfl) (q_pdw [] rfl rfl)⟩
set_option maxHeartbeats 4000000 in
theorem ct_X15_put_492_P {g : q_G} {t : Nat} {r : Nat} {ext : Nat → q_Sh} {rx : Nat → Nat → Option Nat} {L : Nat → Nat → Int64} {d : Nat} (hd : 1 ≤ d)  {I : Nat → Nat → Int32} {E : Nat → Nat → Option Nat} {x1 : Int32} {r0 : (Nat → Int32) × (Nat → Int32)} (hf : f_X15_put (I 529) (I 537) x1 = some r0) : q_Ct g m_X15_put d 0 0 [] [.ref 492, .int x1] (q_hp (t, r, 0, 529, 539, (q_pE ext), (q_pR rx), L) I E) (fun o h' => o = .inl none ∧ h' = q_hp (t, r, 0, 529, 539, (q_pE ext), (q_pR rx), L) (q_ws I [(529, r0.1), (537, r0.2)]) (q_ws E [])) := by
  rw [f_X15_put] at hf
  refine q_Ct_of ok_X15_put (Nat.le_of_ble_eq_true rfl) ?_ _ rfl rfl
  change q_J g m_X15_put d 0 0 _ [] _ 0 0 (q_kc (t, r, 0, 529, 539, (q_pE ext), (q_pR rx), L) I E 0 [some (.ref 492), some (.int x1)] [] [] [])
  obtain ⟨j1, hj1, hf⟩ := q_bd hf
  refine q_blk 15 [j1] (c' := q_kc (t, r, 0, 529, 539, (q_pE ext), (q_pR rx), L) I E 15 [some (.ref 492), some (.int x1)] [] [(529, (q_up (I 529) 14 (((I 529) 14) + (1 : Int32)))), (537, (q_up (I 537) j1 x1))] []) ok_X15_put rfl (q_cc hj1 q_cn) ?_
  cases hf
  exact q_krv ok_X15_put rfl rfl (Nat.le_of_ble_eq_true rfl) (Nat.le_of_ble_eq_true rfl) ⟨rfl, q_hpe (q_pdw [529, 537] rfl rfl) (q_pdw [] rfl rfl)⟩
set_option maxHeartbeats 4000000 in
theorem ct_X15_isInside_492_P {g : q_G} {t : Nat} {r : Nat} {ext : Nat → q_Sh} {rx : Nat → Nat → Option Nat} {L : Nat → Nat → Int64} {d dR : Nat} (hd : dR + 4 ≤ d)  {r_isSum : (Nat → Int32) → (Nat → Int32) → (Nat → Int32) → (Nat → Int32) → (Nat → Int32) → (Nat → Int32) → (Nat → Int32) → (Nat → Int32) → (Nat → Int32) → Option (Bool × (Nat → Int32) × (Nat → Int32) × (Nat → Int32) × (Nat → Int32) × (Nat → Int32))} (hq_isSum : ∀ {I : Nat → Nat → Int32} {E : Nat → Nat → Option Nat} {r0 : Bool × (Nat → Int32) × (Nat → Int32) × (Nat → Int32) × (Nat → Int32) × (Nat → Int32)}, r_isSum ((I 492)) ((I 493)) ((I 494)) ((I 495)) ((I 496)) ((I 497)) ((I 529)) ((I 537)) ((I 538)) = some r0 → q_Ct g m_X15_isSum dR 0 0 [] [.ref 492] (q_hp (t, r, 0, 529, 539, (q_pE ext), (q_pR rx), L) I E) (fun o h' => o = .inl (some (.int (q_bz r0.1))) ∧ h' = q_hp (t, r, 0, 529, 539, (q_pE ext), (q_pR rx), L) (q_ws I [(492, r0.2.1), (497, r0.2.2.1), (529, r0.2.2.2.1), (537, r0.2.2.2.2.1), (538, r0.2.2.2.2.2)]) (q_ws E []))){I : Nat → Nat → Int32} {E : Nat → Nat → Option Nat} {x1 : Int32} {x2 : Bool} {r0 : Bool × (Nat → Int32) × (Nat → Int32) × (Nat → Int32) × (Nat → Int32) × (Nat → Int32)} (hf : f_X15_isInside r_isSum (I 492) (I 493) (I 494) (I 495) (I 496) (I 497) (I 529) (I 537) (I 538) x1 x2 = some r0) : q_Ct g m_X15_isInside d 0 0 [] [.ref 492, .int x1, .int (q_bz x2)] (q_hp (t, r, 0, 529, 539, (q_pE ext), (q_pR rx), L) I E) (fun o h' => o = .inl (some (.int (q_bz r0.1))) ∧ h' = q_hp (t, r, 0, 529, 539, (q_pE ext), (q_pR rx), L) (q_ws I [(492, r0.2.1), (497, r0.2.2.1), (529, r0.2.2.2.1), (537, r0.2.2.2.2.1), (538, r0.2.2.2.2.2)]) (q_ws E [])) := by
  rw [f_X15_isInside] at hf
  refine q_Ct_of ok_X15_isInside (Nat.le_of_ble_eq_true rfl) ?_ _ rfl rfl
  change q_J g m_X15_isInside d 0 0 _ [] _ 0 0 (q_kc (t, r, 0, 529, 539, (q_pE ext), (q_pR rx), L) I E 0 [some (.ref 492), some (.int x1), some (.int (q_bz x2))] [] [] [])
  refine q_blk 2 [] (c' := q_kc (t, r, 0, 529, 539, (q_pE ext), (q_pR rx), L) I E 2 [some (.ref 492), some (.int x1), some (.int (q_bz x2))] [.int (40 : Int32), .ref 492] [] []) ok_X15_isInside rfl q_cn ?_
  obtain ⟨r1, hr1, hf⟩ := q_bd hf
  refine q_kV (M2 := m_X15_isSign) (As := [.int (40 : Int32)]) (b := 492) (v2 := some (.int (q_bz r1))) ok_X15_isInside ok_X15_isSign cv_X15_isSign (ct_X15_isSign_492_P (d := 1) (Nat.le_refl _) hr1) rfl rfl (Or.inl rfl) rfl rfl rfl rfl (by omega) (Nat.le_of_ble_eq_true rfl) (Nat.le_of_ble_eq_true rfl) (Nat.le_of_ble_eq_true rfl) (fun x hx => absurd hx List.not_mem_nil) (q_nmL0 _) (q_nmS0 _) rfl (pos' := 3) (st' := [.int (q_bz r1)]) (lI' := []) (lE' := []) rfl rfl rfl rfl ?_
  refine q_blf 0 [] (a := q_kc (t, r, 0, 529, 539, (q_pE ext), (q_pR rx), L) I E 19 [some (.ref 492), some (.int x1), some (.int (q_bz x2))] [] [] []) (b := q_kc (t, r, 0, 529, 539, (q_pE ext), (q_pR rx), L) I E 4 [some (.ref 492), some (.int x1), some (.int (q_bz x2))] [] [] []) (P := (q_bz r1) = 0) ok_X15_isInside rfl q_cn (fun h2 => ?_) (fun h2 => ?_)
  · have hf := q_ip h2 hf
    refine q_blk 1 [] (c' := q_kc (t, r, 0, 529, 539, (q_pE ext), (q_pR rx), L) I E 20 [some (.ref 492), some (.int x1), some (.int (q_bz x2))] [.int (0 : Int32)] [] []) ok_X15_isInside rfl q_cn ?_
    cases hf
    exact q_kri ok_X15_isInside rfl rfl rfl (Nat.le_of_ble_eq_true rfl) (Nat.le_of_ble_eq_true rfl) ⟨rfl, q_hpe (q_pdw [492, 497, 529, 537, 538] rfl rfl) (q_pdw [] rfl rfl)⟩
  · have hf := q_in h2 hf
    refine q_blk 1 [] (c' := q_kc (t, r, 0, 529, 539, (q_pE ext), (q_pR rx), L) I E 5 [some (.ref 492), some (.int x1), some (.int (q_bz x2))] [.ref 492] [] []) ok_X15_isInside rfl q_cn ?_
    obtain ⟨r3, hr3, hf⟩ := q_bd hf
    refine q_kV (M2 := m_X15_isDeeper) (As := []) (b := 492) (v2 := some (.int (q_bz r3.1))) ok_X15_isInside ok_X15_isDeeper cv_X15_isDeeper (ct_X15_isDeeper_492_P (d := 1) (Nat.le_refl _) hr3) rfl rfl (Or.inl rfl) rfl rfl rfl rfl (by omega) (Nat.le_of_ble_eq_true rfl) (Nat.le_of_ble_eq_true rfl) (Nat.le_of_ble_eq_true rfl) (fun x hx => absurd hx List.not_mem_nil) (q_nmL0 _) (q_nmS0 _) rfl (pos' := 6) (st' := [.int (q_bz r3.1)]) (lI' := [(492, r3.2)]) (lE' := []) rfl rfl (q_mgw rfl rfl) rfl ?_
    refine q_blf 0 [] (a := q_kc (t, r, 0, 529, 539, (q_pE ext), (q_pR rx), L) I E 19 [some (.ref 492), some (.int x1), some (.int (q_bz x2))] [] [(492, r3.2)] []) (b := q_kc (t, r, 0, 529, 539, (q_pE ext), (q_pR rx), L) I E 7 [some (.ref 492), some (.int x1), some (.int (q_bz x2))] [] [(492, r3.2)] []) (P := (q_bz r3.1) = 0) ok_X15_isInside rfl q_cn (fun h4 => ?_) (fun h4 => ?_)
    · have hf := q_ip h4 hf
      refine q_blk 1 [] (c' := q_kc (t, r, 0, 529, 539, (q_pE ext), (q_pR rx), L) I E 20 [some (.ref 492), some (.int x1), some (.int (q_bz x2))] [.int (0 : Int32)] [(492, r3.2)] []) ok_X15_isInside rfl q_cn ?_
      cases hf
      exact q_kri ok_X15_isInside rfl rfl rfl (Nat.le_of_ble_eq_true rfl) (Nat.le_of_ble_eq_true rfl) ⟨rfl, q_hpe (q_pdw [492, 497, 529, 537, 538] rfl rfl) (q_pdw [] rfl rfl)⟩
    · have hf := q_in h4 hf
      refine q_blk 1 [] (c' := q_kc (t, r, 0, 529, 539, (q_pE ext), (q_pR rx), L) I E 8 [some (.ref 492), some (.int x1), some (.int (q_bz x2))] [.ref 492] [(492, r3.2)] []) ok_X15_isInside rfl q_cn ?_
      obtain ⟨r5, hr5, hf⟩ := q_bd hf
      refine q_kV (M2 := m_X15_isSum) (As := []) (b := 492) (v2 := some (.int (q_bz r5.1))) ok_X15_isInside ok_X15_isSum cv_X15_isSum (hq_isSum hr5) rfl rfl (Or.inl rfl) rfl rfl rfl rfl (by omega) (Nat.le_of_ble_eq_true rfl) (Nat.le_of_ble_eq_true rfl) (Nat.le_of_ble_eq_true rfl) (fun x hx => absurd hx List.not_mem_nil) (q_nmL0 _) (q_nmS0 _) rfl (pos' := 9) (st' := [.int (q_bz r5.1)]) (lI' := [(492, r5.2.1), (497, r5.2.2.1), (529, r5.2.2.2.1), (537, r5.2.2.2.2.1), (538, r5.2.2.2.2.2)]) (lE' := []) rfl rfl (q_mgw rfl rfl) rfl ?_
      refine q_blf 0 [] (a := q_kc (t, r, 0, 529, 539, (q_pE ext), (q_pR rx), L) I E 19 [some (.ref 492), some (.int x1), some (.int (q_bz x2))] [] [(492, r5.2.1), (497, r5.2.2.1), (529, r5.2.2.2.1), (537, r5.2.2.2.2.1), (538, r5.2.2.2.2.2)] []) (b := q_kc (t, r, 0, 529, 539, (q_pE ext), (q_pR rx), L) I E 10 [some (.ref 492), some (.int x1), some (.int (q_bz x2))] [] [(492, r5.2.1), (497, r5.2.2.1), (529, r5.2.2.2.1), (537, r5.2.2.2.2.1), (538, r5.2.2.2.2.2)] []) (P := (q_bz r5.1) = 0) ok_X15_isInside rfl q_cn (fun h6 => ?_) (fun h6 => ?_)
      · have hf := q_ip h6 hf
        refine q_blk 1 [] (c' := q_kc (t, r, 0, 529, 539, (q_pE ext), (q_pR rx), L) I E 20 [some (.ref 492), some (.int x1), some (.int (q_bz x2))] [.int (0 : Int32)] [(492, r5.2.1), (497, r5.2.2.1), (529, r5.2.2.2.1), (537, r5.2.2.2.2.1), (538, r5.2.2.2.2.2)] []) ok_X15_isInside rfl q_cn ?_
        cases hf
        exact q_kri ok_X15_isInside rfl rfl rfl (Nat.le_of_ble_eq_true rfl) (Nat.le_of_ble_eq_true rfl) ⟨rfl, q_hpe (q_pdw [492, 497, 529, 537, 538] rfl rfl) (q_pdw [] rfl rfl)⟩
      · have hf := q_in h6 hf
        refine q_blf 1 [] (a := q_kc (t, r, 0, 529, 539, (q_pE ext), (q_pR rx), L) I E 21 [some (.ref 492), some (.int x1), some (.int (q_bz x2))] [] [(492, r5.2.1), (497, r5.2.2.1), (529, r5.2.2.2.1), (537, r5.2.2.2.2.1), (538, r5.2.2.2.2.2)] []) (b := q_kc (t, r, 0, 529, 539, (q_pE ext), (q_pR rx), L) I E 12 [some (.ref 492), some (.int x1), some (.int (q_bz x2))] [] [(492, r5.2.1), (497, r5.2.2.1), (529, r5.2.2.2.1), (537, r5.2.2.2.2.1), (538, r5.2.2.2.2.2)] []) (P := (q_bz x2) = 0) ok_X15_isInside rfl q_cn (fun h7 => ?_) (fun h7 => ?_)
        · have hf := q_ip h7 hf
          refine q_blf 7 [] (a := q_kc (t, r, 0, 529, 539, (q_pE ext), (q_pR rx), L) I E 32 [some (.ref 492), some (.int x1), some (.int (q_bz x2))] [] [(492, (q_up r5.2.1 10 ((r5.2.1 10) - (1 : Int32)))), (497, r5.2.2.1), (529, r5.2.2.2.1), (537, r5.2.2.2.2.1), (538, r5.2.2.2.2.2)] []) (b := q_kc (t, r, 0, 529, 539, (q_pE ext), (q_pR rx), L) I E 29 [some (.ref 492), some (.int x1), some (.int (q_bz x2))] [] [(492, (q_up r5.2.1 10 ((r5.2.1 10) - (1 : Int32)))), (497, r5.2.2.1), (529, r5.2.2.2.1), (537, r5.2.2.2.2.1), (538, r5.2.2.2.2.2)] []) (P := (q_bz x2) = 0) ok_X15_isInside rfl q_cn (fun h8 => ?_) (fun h8 => ?_)
          · have hf := q_ip h8 hf
            refine q_blk 2 [] (c' := q_kc (t, r, 0, 529, 539, (q_pE ext), (q_pR rx), L) I E 34 [some (.ref 492), some (.int x1), some (.int (q_bz x2))] [.int (41 : Int32), .ref 492] [(492, (q_up r5.2.1 10 ((r5.2.1 10) - (1 : Int32)))), (497, r5.2.2.1), (529, r5.2.2.2.1), (537, r5.2.2.2.2.1), (538, r5.2.2.2.2.2)] []) ok_X15_isInside rfl q_cn ?_
            obtain ⟨r9, hr9, hf⟩ := q_bd hf
            refine q_kV (M2 := m_X15_eatSign) (As := [.int (41 : Int32)]) (b := 492) (v2 := some (.int (q_bz r9.1))) ok_X15_isInside ok_X15_eatSign cv_X15_eatSign (ct_X15_eatSign_492_P (d := 3) (Nat.le_refl _) hr9) rfl rfl (Or.inl rfl) rfl rfl rfl rfl (by omega) (Nat.le_of_ble_eq_true rfl) (Nat.le_of_ble_eq_true rfl) (Nat.le_of_ble_eq_true rfl) (fun x hx => absurd hx List.not_mem_nil) (q_nmL0 _) (q_nmS0 _) rfl (pos' := 35) (st' := [.int (q_bz r9.1)]) (lI' := [(492, r9.2), (497, r5.2.2.1), (529, r5.2.2.2.1), (537, r5.2.2.2.2.1), (538, r5.2.2.2.2.2)]) (lE' := []) rfl rfl (q_mgw rfl rfl) rfl ?_
            cases hf
            exact q_kri ok_X15_isInside rfl rfl (q_bz_nr _) (Nat.le_of_ble_eq_true rfl) (Nat.le_of_ble_eq_true rfl) ⟨rfl, q_hpe (q_pdw [492, 497, 529, 537, 538] rfl rfl) (q_pdw [] rfl rfl)⟩
          · have hf := q_in h8 hf
            refine q_blk 2 [] (c' := q_kc (t, r, 0, 529, 539, (q_pE ext), (q_pR rx), L) I E 31 [some (.ref 492), some (.int x1), some (.int (q_bz x2))] [.int x1, .ref 492] [(492, (q_up r5.2.1 10 ((r5.2.1 10) - (1 : Int32)))), (497, r5.2.2.1), (529, r5.2.2.2.1), (537, r5.2.2.2.2.1), (538, r5.2.2.2.2.2)] []) ok_X15_isInside rfl q_cn ?_
            obtain ⟨r10, hr10, hf⟩ := q_bd hf
            refine q_kV (M2 := m_X15_put) (As := [.int x1]) (b := 492) (v2 := none) ok_X15_isInside ok_X15_put cv_X15_put (ct_X15_put_492_P (d := 1) (Nat.le_refl _) hr10) rfl rfl (Or.inl rfl) rfl rfl rfl rfl (by omega) (Nat.le_of_ble_eq_true rfl) (Nat.le_of_ble_eq_true rfl) (Nat.le_of_ble_eq_true rfl) (fun x hx => absurd hx List.not_mem_nil) (q_nmL0 _) (q_nmS0 _) rfl (pos' := 32) (st' := []) (lI' := [(492, (q_up r5.2.1 10 ((r5.2.1 10) - (1 : Int32)))), (497, r5.2.2.1), (529, r10.1), (537, r10.2), (538, r5.2.2.2.2.2)]) (lE' := []) rfl rfl (q_mgw rfl rfl) rfl ?_
            refine q_blk 2 [] (c' := q_kc (t, r, 0, 529, 539, (q_pE ext), (q_pR rx), L) I E 34 [some (.ref 492), some (.int x1), some (.int (q_bz x2))] [.int (41 : Int32), .ref 492] [(492, (q_up r5.2.1 10 ((r5.2.1 10) - (1 : Int32)))), (497, r5.2.2.1), (529, r10.1), (537, r10.2), (538, r5.2.2.2.2.2)] []) ok_X15_isInside rfl q_cn ?_
            obtain ⟨r11, hr11, hf⟩ := q_bd hf
            refine q_kV (M2 := m_X15_eatSign) (As := [.int (41 : Int32)]) (b := 492) (v2 := some (.int (q_bz r11.1))) ok_X15_isInside ok_X15_eatSign cv_X15_eatSign (ct_X15_eatSign_492_P (d := 3) (Nat.le_refl _) hr11) rfl rfl (Or.inl rfl) rfl rfl rfl rfl (by omega) (Nat.le_of_ble_eq_true rfl) (Nat.le_of_ble_eq_true rfl) (Nat.le_of_ble_eq_true rfl) (fun x hx => absurd hx List.not_mem_nil) (q_nmL0 _) (q_nmS0 _) rfl (pos' := 35) (st' := [.int (q_bz r11.1)]) (lI' := [(492, r11.2), (497, r5.2.2.1), (529, r10.1), (537, r10.2), (538, r5.2.2.2.2.2)]) (lE' := []) rfl rfl (q_mgw rfl rfl) rfl ?_
            cases hf
            exact q_kri ok_X15_isInside rfl rfl (q_bz_nr _) (Nat.le_of_ble_eq_true rfl) (Nat.le_of_ble_eq_true rfl) ⟨rfl, q_hpe (q_pdw [492, 497, 529, 537, 538] rfl rfl) (q_pdw [] rfl rfl)⟩
        · have hf := q_in h7 hf
          refine q_blk 2 [] (c' := q_kc (t, r, 0, 529, 539, (q_pE ext), (q_pR rx), L) I E 14 [some (.ref 492), some (.int x1), some (.int (q_bz x2))] [.int (44 : Int32), .ref 492] [(492, r5.2.1), (497, r5.2.2.1), (529, r5.2.2.2.1), (537, r5.2.2.2.2.1), (538, r5.2.2.2.2.2)] []) ok_X15_isInside rfl q_cn ?_
          obtain ⟨r12, hr12, hf⟩ := q_bd hf
          refine q_kV (M2 := m_X15_eatSign) (As := [.int (44 : Int32)]) (b := 492) (v2 := some (.int (q_bz r12.1))) ok_X15_isInside ok_X15_eatSign cv_X15_eatSign (ct_X15_eatSign_492_P (d := 3) (Nat.le_refl _) hr12) rfl rfl (Or.inl rfl) rfl rfl rfl rfl (by omega) (Nat.le_of_ble_eq_true rfl) (Nat.le_of_ble_eq_true rfl) (Nat.le_of_ble_eq_true rfl) (fun x hx => absurd hx List.not_mem_nil) (q_nmL0 _) (q_nmS0 _) rfl (pos' := 15) (st' := [.int (q_bz r12.1)]) (lI' := [(492, r12.2), (497, r5.2.2.1), (529, r5.2.2.2.1), (537, r5.2.2.2.2.1), (538, r5.2.2.2.2.2)]) (lE' := []) rfl rfl (q_mgw rfl rfl) rfl ?_
          refine q_blf 0 [] (a := q_kc (t, r, 0, 529, 539, (q_pE ext), (q_pR rx), L) I E 19 [some (.ref 492), some (.int x1), some (.int (q_bz x2))] [] [(492, r12.2), (497, r5.2.2.1), (529, r5.2.2.2.1), (537, r5.2.2.2.2.1), (538, r5.2.2.2.2.2)] []) (b := q_kc (t, r, 0, 529, 539, (q_pE ext), (q_pR rx), L) I E 16 [some (.ref 492), some (.int x1), some (.int (q_bz x2))] [] [(492, r12.2), (497, r5.2.2.1), (529, r5.2.2.2.1), (537, r5.2.2.2.2.1), (538, r5.2.2.2.2.2)] []) (P := (q_bz r12.1) = 0) ok_X15_isInside rfl q_cn (fun h13 => ?_) (fun h13 => ?_)
          · have hf := q_ip h13 hf
            refine q_blk 1 [] (c' := q_kc (t, r, 0, 529, 539, (q_pE ext), (q_pR rx), L) I E 20 [some (.ref 492), some (.int x1), some (.int (q_bz x2))] [.int (0 : Int32)] [(492, r12.2), (497, r5.2.2.1), (529, r5.2.2.2.1), (537, r5.2.2.2.2.1), (538, r5.2.2.2.2.2)] []) ok_X15_isInside rfl q_cn ?_
            cases hf
            exact q_kri ok_X15_isInside rfl rfl rfl (Nat.le_of_ble_eq_true rfl) (Nat.le_of_ble_eq_true rfl) ⟨rfl, q_hpe (q_pdw [492, 497, 529, 537, 538] rfl rfl) (q_pdw [] rfl rfl)⟩
          · have hf := q_in h13 hf
            refine q_blk 1 [] (c' := q_kc (t, r, 0, 529, 539, (q_pE ext), (q_pR rx), L) I E 17 [some (.ref 492), some (.int x1), some (.int (q_bz x2))] [.ref 492] [(492, r12.2), (497, r5.2.2.1), (529, r5.2.2.2.1), (537, r5.2.2.2.2.1), (538, r5.2.2.2.2.2)] []) ok_X15_isInside rfl q_cn ?_
            obtain ⟨r14, hr14, hf⟩ := q_bd hf
            refine q_kV (M2 := m_X15_isSum) (As := []) (b := 492) (v2 := some (.int (q_bz r14.1))) ok_X15_isInside ok_X15_isSum cv_X15_isSum (hq_isSum hr14) rfl rfl (Or.inl rfl) rfl rfl rfl rfl (by omega) (Nat.le_of_ble_eq_true rfl) (Nat.le_of_ble_eq_true rfl) (Nat.le_of_ble_eq_true rfl) (fun x hx => absurd hx List.not_mem_nil) (q_nmL0 _) (q_nmS0 _) rfl (pos' := 18) (st' := [.int (q_bz r14.1)]) (lI' := [(492, r14.2.1), (497, r14.2.2.1), (529, r14.2.2.2.1), (537, r14.2.2.2.2.1), (538, r14.2.2.2.2.2)]) (lE' := []) rfl rfl (q_mgw rfl rfl) rfl ?_
            refine q_blf 0 [] (a := q_kc (t, r, 0, 529, 539, (q_pE ext), (q_pR rx), L) I E 21 [some (.ref 492), some (.int x1), some (.int (q_bz x2))] [] [(492, r14.2.1), (497, r14.2.2.1), (529, r14.2.2.2.1), (537, r14.2.2.2.2.1), (538, r14.2.2.2.2.2)] []) (b := q_kc (t, r, 0, 529, 539, (q_pE ext), (q_pR rx), L) I E 19 [some (.ref 492), some (.int x1), some (.int (q_bz x2))] [] [(492, r14.2.1), (497, r14.2.2.1), (529, r14.2.2.2.1), (537, r14.2.2.2.2.1), (538, r14.2.2.2.2.2)] []) (P := ¬ (q_bz r14.1) = 0) ok_X15_isInside rfl q_cn (fun h15 => ?_) (fun h15 => ?_)
            · have hf := q_ip h15 hf
              refine q_blf 7 [] (a := q_kc (t, r, 0, 529, 539, (q_pE ext), (q_pR rx), L) I E 32 [some (.ref 492), some (.int x1), some (.int (q_bz x2))] [] [(492, (q_up r14.2.1 10 ((r14.2.1 10) - (1 : Int32)))), (497, r14.2.2.1), (529, r14.2.2.2.1), (537, r14.2.2.2.2.1), (538, r14.2.2.2.2.2)] []) (b := q_kc (t, r, 0, 529, 539, (q_pE ext), (q_pR rx), L) I E 29 [some (.ref 492), some (.int x1), some (.int (q_bz x2))] [] [(492, (q_up r14.2.1 10 ((r14.2.1 10) - (1 : Int32)))), (497, r14.2.2.1), (529, r14.2.2.2.1), (537, r14.2.2.2.2.1), (538, r14.2.2.2.2.2)] []) (P := (q_bz x2) = 0) ok_X15_isInside rfl q_cn (fun h16 => ?_) (fun h16 => ?_)
              · have hf := q_ip h16 hf
                refine q_blk 2 [] (c' := q_kc (t, r, 0, 529, 539, (q_pE ext), (q_pR rx), L) I E 34 [some (.ref 492), some (.int x1), some (.int (q_bz x2))] [.int (41 : Int32), .ref 492] [(492, (q_up r14.2.1 10 ((r14.2.1 10) - (1 : Int32)))), (497, r14.2.2.1), (529, r14.2.2.2.1), (537, r14.2.2.2.2.1), (538, r14.2.2.2.2.2)] []) ok_X15_isInside rfl q_cn ?_
                obtain ⟨r17, hr17, hf⟩ := q_bd hf
                refine q_kV (M2 := m_X15_eatSign) (As := [.int (41 : Int32)]) (b := 492) (v2 := some (.int (q_bz r17.1))) ok_X15_isInside ok_X15_eatSign cv_X15_eatSign (ct_X15_eatSign_492_P (d := 3) (Nat.le_refl _) hr17) rfl rfl (Or.inl rfl) rfl rfl rfl rfl (by omega) (Nat.le_of_ble_eq_true rfl) (Nat.le_of_ble_eq_true rfl) (Nat.le_of_ble_eq_true rfl) (fun x hx => absurd hx List.not_mem_nil) (q_nmL0 _) (q_nmS0 _) rfl (pos' := 35) (st' := [.int (q_bz r17.1)]) (lI' := [(492, r17.2), (497, r14.2.2.1), (529, r14.2.2.2.1), (537, r14.2.2.2.2.1), (538, r14.2.2.2.2.2)]) (lE' := []) rfl rfl (q_mgw rfl rfl) rfl ?_
                cases hf
                exact q_kri ok_X15_isInside rfl rfl (q_bz_nr _) (Nat.le_of_ble_eq_true rfl) (Nat.le_of_ble_eq_true rfl) ⟨rfl, q_hpe (q_pdw [492, 497, 529, 537, 538] rfl rfl) (q_pdw [] rfl rfl)⟩
              · have hf := q_in h16 hf
                refine q_blk 2 [] (c' := q_kc (t, r, 0, 529, 539, (q_pE ext), (q_pR rx), L) I E 31 [some (.ref 492), some (.int x1), some (.int (q_bz x2))] [.int x1, .ref 492] [(492, (q_up r14.2.1 10 ((r14.2.1 10) - (1 : Int32)))), (497, r14.2.2.1), (529, r14.2.2.2.1), (537, r14.2.2.2.2.1), (538, r14.2.2.2.2.2)] []) ok_X15_isInside rfl q_cn ?_
                obtain ⟨r18, hr18, hf⟩ := q_bd hf
                refine q_kV (M2 := m_X15_put) (As := [.int x1]) (b := 492) (v2 := none) ok_X15_isInside ok_X15_put cv_X15_put (ct_X15_put_492_P (d := 1) (Nat.le_refl _) hr18) rfl rfl (Or.inl rfl) rfl rfl rfl rfl (by omega) (Nat.le_of_ble_eq_true rfl) (Nat.le_of_ble_eq_true rfl) (Nat.le_of_ble_eq_true rfl) (fun x hx => absurd hx List.not_mem_nil) (q_nmL0 _) (q_nmS0 _) rfl (pos' := 32) (st' := []) (lI' := [(492, (q_up r14.2.1 10 ((r14.2.1 10) - (1 : Int32)))), (497, r14.2.2.1), (529, r18.1), (537, r18.2), (538, r14.2.2.2.2.2)]) (lE' := []) rfl rfl (q_mgw rfl rfl) rfl ?_
                refine q_blk 2 [] (c' := q_kc (t, r, 0, 529, 539, (q_pE ext), (q_pR rx), L) I E 34 [some (.ref 492), some (.int x1), some (.int (q_bz x2))] [.int (41 : Int32), .ref 492] [(492, (q_up r14.2.1 10 ((r14.2.1 10) - (1 : Int32)))), (497, r14.2.2.1), (529, r18.1), (537, r18.2), (538, r14.2.2.2.2.2)] []) ok_X15_isInside rfl q_cn ?_
                obtain ⟨r19, hr19, hf⟩ := q_bd hf
                refine q_kV (M2 := m_X15_eatSign) (As := [.int (41 : Int32)]) (b := 492) (v2 := some (.int (q_bz r19.1))) ok_X15_isInside ok_X15_eatSign cv_X15_eatSign (ct_X15_eatSign_492_P (d := 3) (Nat.le_refl _) hr19) rfl rfl (Or.inl rfl) rfl rfl rfl rfl (by omega) (Nat.le_of_ble_eq_true rfl) (Nat.le_of_ble_eq_true rfl) (Nat.le_of_ble_eq_true rfl) (fun x hx => absurd hx List.not_mem_nil) (q_nmL0 _) (q_nmS0 _) rfl (pos' := 35) (st' := [.int (q_bz r19.1)]) (lI' := [(492, r19.2), (497, r14.2.2.1), (529, r18.1), (537, r18.2), (538, r14.2.2.2.2.2)]) (lE' := []) rfl rfl (q_mgw rfl rfl) rfl ?_
                cases hf
                exact q_kri ok_X15_isInside rfl rfl (q_bz_nr _) (Nat.le_of_ble_eq_true rfl) (Nat.le_of_ble_eq_true rfl) ⟨rfl, q_hpe (q_pdw [492, 497, 529, 537, 538] rfl rfl) (q_pdw [] rfl rfl)⟩
            · have hf := q_in h15 hf
              refine q_blk 1 [] (c' := q_kc (t, r, 0, 529, 539, (q_pE ext), (q_pR rx), L) I E 20 [some (.ref 492), some (.int x1), some (.int (q_bz x2))] [.int (0 : Int32)] [(492, r14.2.1), (497, r14.2.2.1), (529, r14.2.2.2.1), (537, r14.2.2.2.2.1), (538, r14.2.2.2.2.2)] []) ok_X15_isInside rfl q_cn ?_
              cases hf
              exact q_kri ok_X15_isInside rfl rfl rfl (Nat.le_of_ble_eq_true rfl) (Nat.le_of_ble_eq_true rfl) ⟨rfl, q_hpe (q_pdw [492, 497, 529, 537, 538] rfl rfl) (q_pdw [] rfl rfl)⟩
set_option maxHeartbeats 4000000 in
theorem lp_X15_numberAt_L4_492_P {g : q_G} {d mc ms : Nat} {h0 : q_H} {Q : (Option Value ⊕ String) → q_H → Prop} {k n : Nat} {t : Nat} {r : Nat} {ext : Nat → q_Sh} {rx : Nat → Nat → Option Nat} {L : Nat → Nat → Int64} (hd : 1 ≤ d) (hk : k ≤ mc) (hn : n ≤ ms)  {v1 : Int32} : ∀ (fu : Nat) {I : Nat → Nat → Int32} {E : Nat → Nat → Option Nat} {v2 : Int32} {v3 : Int32} {r0 : Int32} (hf : f_X15_numberAt_L4 (I 493) (I 495) (I 496) v1 fu v2 v3 = some r0) (hK0 : q_J g m_X15_numberAt d mc ms h0 [] Q k n (q_kc (t, r, 0, 529, 539, (q_pE ext), (q_pR rx), L) I E 28 [none, none, some (.int r0), none] [] [] [])), q_J g m_X15_numberAt d mc ms h0 [] Q k n (4, [some (.ref 492), some (.int v1), some (.int v2), some (.int v3)], [], q_hp (t, r, 0, 529, 539, (q_pE ext), (q_pR rx), L) I E) := by
  intro fu
  induction fu with
  | zero =>
    intro I E v2 v3 r0 hf hK0
    rw [f_X15_numberAt_L4] at hf
    cases hf
  | succ fu ih =>
    intro I E v2 v3 r0 hf hK0
    rw [f_X15_numberAt_L4] at hf
    change q_J g m_X15_numberAt d mc ms h0 [] Q k n (q_kc (t, r, 0, 529, 539, (q_pE ext), (q_pR rx), L) I E 4 [some (.ref 492), some (.int v1), some (.int v2), some (.int v3)] [] [] [])
    obtain ⟨j1, hj1, hf⟩ := q_bd hf
    refine q_blf 5 [j1] (a := q_kc (t, r, 0, 529, 539, (q_pE ext), (q_pR rx), L) I E 28 [some (.ref 492), some (.int v1), some (.int v2), some (.int v3)] [] [] []) (b := q_kc (t, r, 0, 529, 539, (q_pE ext), (q_pR rx), L) I E 10 [some (.ref 492), some (.int v1), some (.int v2), some (.int v3)] [] [] []) (P := ((I 496) j1) ≤ v3) ok_X15_numberAt rfl (q_cc hj1 q_cn) (fun h2 => ?_) (fun h2 => ?_)
    · have hf := q_ip h2 hf
      refine q_less (ls' := [none, none, some (.int v2), none]) (q_sb1 (q_sb1 (q_sb2 (q_sb1 q_sb0)))) ?_
      cases hf
      exact q_Jpad (q_pdw [] rfl rfl) (q_pdw [] rfl rfl) hK0
    · have hf := q_in h2 hf
      obtain ⟨j3, hj3, hf⟩ := q_bd hf
      obtain ⟨j4, hj4, hf⟩ := q_bd hf
      refine q_blk 18 [j3, j4] (c' := q_kc (t, r, 0, 529, 539, (q_pE ext), (q_pR rx), L) I E 4 [some (.ref 492), some (.int v1), some (.int ((((10 : Int32) * v2) + ((I 493) j4)) - (48 : Int32))), some (.int (v3 + 1))] [] [] []) ok_X15_numberAt rfl (q_cc hj4 (q_cc hj3 q_cn)) ?_
      exact ih (I := q_ws I []) (E := q_ws E []) hf (q_Jmrg (q_mgw rfl rfl) (q_mgw rfl rfl) hK0)
set_option maxHeartbeats 4000000 in
theorem ct_X15_numberAt_492_P {g : q_G} {t : Nat} {r : Nat} {ext : Nat → q_Sh} {rx : Nat → Nat → Option Nat} {L : Nat → Nat → Int64} {d : Nat} (hd : 1 ≤ d)  {I : Nat → Nat → Int32} {E : Nat → Nat → Option Nat} {x1 : Int32} {r0 : Int32} (hf : f_X15_numberAt (I 493) (I 495) (I 496) x1 = some r0) : q_Ct g m_X15_numberAt d 0 0 [] [.ref 492, .int x1] (q_hp (t, r, 0, 529, 539, (q_pE ext), (q_pR rx), L) I E) (fun o h' => o = .inl (some (.int r0)) ∧ h' = q_hp (t, r, 0, 529, 539, (q_pE ext), (q_pR rx), L) (q_ws I []) (q_ws E [])) := by
  rw [f_X15_numberAt] at hf
  refine q_Ct_of ok_X15_numberAt (Nat.le_of_ble_eq_true rfl) ?_ _ rfl rfl
  change q_J g m_X15_numberAt d 0 0 _ [] _ 0 0 (q_kc (t, r, 0, 529, 539, (q_pE ext), (q_pR rx), L) I E 0 [some (.ref 492), some (.int x1), none, none] [] [] [])
  refine q_blk 4 [] (c' := q_kc (t, r, 0, 529, 539, (q_pE ext), (q_pR rx), L) I E 4 [some (.ref 492), some (.int x1), some (.int (0 : Int32)), some (.int (0 : Int32))] [] [] []) ok_X15_numberAt rfl q_cn ?_
  obtain ⟨r5, hr5, hf⟩ := q_bd hf
  refine lp_X15_numberAt_L4_492_P (I := q_ws I []) (E := q_ws E []) hd (Nat.le_of_ble_eq_true rfl) (Nat.le_of_ble_eq_true rfl) 4096 hr5 ?_
  refine q_Jmrg (lI' := []) (lE' := []) (q_mgw rfl rfl) (q_mgw rfl rfl) ?_
  refine q_blk 1 [] (c' := q_kc (t, r, 0, 529, 539, (q_pE ext), (q_pR rx), L) I E 29 [none, none, some (.int r5), none] [.int r5] [] []) ok_X15_numberAt rfl q_cn ?_
  cases hf
  exact q_kri ok_X15_numberAt rfl rfl rfl (Nat.le_of_ble_eq_true rfl) (Nat.le_of_ble_eq_true rfl) ⟨rfl, q_hpe (q_pdw [] rfl rfl) (q_pdw [] rfl rfl)⟩
set_option maxHeartbeats 4000000 in
theorem ct_X15_eatAs_492_P {g : q_G} {t : Nat} {r : Nat} {ext : Nat → q_Sh} {rx : Nat → Nat → Option Nat} {L : Nat → Nat → Int64} {d : Nat} (hd : 3 ≤ d)  {I : Nat → Nat → Int32} {E : Nat → Nat → Option Nat} {x1 : Int32} {x2 : Int32} {r0 : Bool × (Nat → Int32) × (Nat → Int32)} (hf : f_X15_eatAs (I 492) (I 494) (I 497) x1 x2 = some r0) : q_Ct g m_X15_eatAs d 0 0 [] [.ref 492, .int x1, .int x2] (q_hp (t, r, 0, 529, 539, (q_pE ext), (q_pR rx), L) I E) (fun o h' => o = .inl (some (.int (q_bz r0.1))) ∧ h' = q_hp (t, r, 0, 529, 539, (q_pE ext), (q_pR rx), L) (q_ws I [(492, r0.2.1), (497, r0.2.2)]) (q_ws E [])) := by
  rw [f_X15_eatAs] at hf
  refine q_Ct_of ok_X15_eatAs (Nat.le_of_ble_eq_true rfl) ?_ _ rfl rfl
  change q_J g m_X15_eatAs d 0 0 _ [] _ 0 0 (q_kc (t, r, 0, 529, 539, (q_pE ext), (q_pR rx), L) I E 0 [some (.ref 492), some (.int x1), some (.int x2)] [] [] [])
  obtain ⟨j1, hj1, hf⟩ := q_bd hf
  refine q_blk 8 [j1] (c' := q_kc (t, r, 0, 529, 539, (q_pE ext), (q_pR rx), L) I E 8 [some (.ref 492), some (.int x1), some (.int x2)] [.int x1, .ref 492] [(497, (q_up (I 497) j1 x2))] []) ok_X15_eatAs rfl (q_cc hj1 q_cn) ?_
  obtain ⟨r2, hr2, hf⟩ := q_bd hf
  refine q_kV (M2 := m_X15_eat) (As := [.int x1]) (b := 492) (v2 := some (.int (q_bz r2.1))) ok_X15_eatAs ok_X15_eat cv_X15_eat (ct_X15_eat_492_P (d := 2) (Nat.le_refl _) hr2) rfl rfl (Or.inl rfl) rfl rfl rfl rfl (Nat.le_trans (Nat.le_of_ble_eq_true rfl) hd) (Nat.le_of_ble_eq_true rfl) (Nat.le_of_ble_eq_true rfl) (Nat.le_of_ble_eq_true rfl) (fun x hx => absurd hx List.not_mem_nil) (q_nmL0 _) (q_nmS0 _) rfl (pos' := 9) (st' := [.int (q_bz r2.1)]) (lI' := [(492, r2.2), (497, (q_up (I 497) j1 x2))]) (lE' := []) rfl rfl (q_mgw rfl rfl) rfl ?_
  cases hf
  exact q_kri ok_X15_eatAs rfl rfl (q_bz_nr _) (Nat.le_of_ble_eq_true rfl) (Nat.le_of_ble_eq_true rfl) ⟨rfl, q_hpe (q_pdw [492, 497] rfl rfl) (q_pdw [] rfl rfl)⟩
set_option maxHeartbeats 4000000 in
theorem ct_X15_isName_492_P {g : q_G} {t : Nat} {r : Nat} {ext : Nat → q_Sh} {rx : Nat → Nat → Option Nat} {L : Nat → Nat → Int64} {d : Nat} (hd : 4 ≤ d)  {I : Nat → Nat → Int32} {E : Nat → Nat → Option Nat} {x1 : Int32} {r0 : Bool × (Nat → Int32) × (Nat → Int32) × (Nat → Int32) × (Nat → Int32) × (Nat → Int32)} (hf : f_X15_isName (I 492) (I 494) (I 497) (I 529) (I 537) (I 538) x1 = some r0) : q_Ct g m_X15_isName d 0 0 [] [.ref 492, .int x1] (q_hp (t, r, 0, 529, 539, (q_pE ext), (q_pR rx), L) I E) (fun o h' => o = .inl (some (.int (q_bz r0.1))) ∧ h' = q_hp (t, r, 0, 529, 539, (q_pE ext), (q_pR rx), L) (q_ws I [(492, r0.2.1), (497, r0.2.2.1), (529, r0.2.2.2.1), (537, r0.2.2.2.2.1), (538, r0.2.2.2.2.2)]) (q_ws E [])) := by
  rw [f_X15_isName] at hf
  refine q_Ct_of ok_X15_isName (Nat.le_of_ble_eq_true rfl) ?_ _ rfl rfl
  change q_J g m_X15_isName d 0 0 _ [] _ 0 0 (q_kc (t, r, 0, 529, 539, (q_pE ext), (q_pR rx), L) I E 0 [some (.ref 492), some (.int x1)] [] [] [])
  obtain ⟨j1, hj1, hf⟩ := q_bd hf
  refine q_blk 20 [j1] (c' := q_kc (t, r, 0, 529, 539, (q_pE ext), (q_pR rx), L) I E 20 [some (.ref 492), some (.int x1)] [.int ((I 492) 9), .ref 492] [(529, (q_up (I 529) 16 (((I 529) 16) + (1 : Int32)))), (538, (q_up (I 538) j1 ((I 529) 14)))] []) ok_X15_isName rfl (q_cc hj1 q_cn) ?_
  obtain ⟨r2, hr2, hf⟩ := q_bd hf
  refine q_kV (M2 := m_X15_put) (As := [.int ((I 492) 9)]) (b := 492) (v2 := none) ok_X15_isName ok_X15_put cv_X15_put (ct_X15_put_492_P (d := 1) (Nat.le_refl _) hr2) rfl rfl (Or.inl rfl) rfl rfl rfl rfl (Nat.le_trans (Nat.le_of_ble_eq_true rfl) hd) (Nat.le_of_ble_eq_true rfl) (Nat.le_of_ble_eq_true rfl) (Nat.le_of_ble_eq_true rfl) (fun x hx => absurd hx List.not_mem_nil) (q_nmL0 _) (q_nmS0 _) rfl (pos' := 21) (st' := []) (lI' := [(529, r2.1), (537, r2.2), (538, (q_up (I 538) j1 ((I 529) 14)))]) (lE' := []) rfl rfl (q_mgw rfl rfl) rfl ?_
  refine q_blk 3 [] (c' := q_kc (t, r, 0, 529, 539, (q_pE ext), (q_pR rx), L) I E 24 [some (.ref 492), some (.int x1)] [.int x1, .int (40 : Int32), .ref 492] [(529, r2.1), (537, r2.2), (538, (q_up (I 538) j1 ((I 529) 14)))] []) ok_X15_isName rfl q_cn ?_
  obtain ⟨r3, hr3, hf⟩ := q_bd hf
  refine q_kV (M2 := m_X15_eatAs) (As := [.int (40 : Int32), .int x1]) (b := 492) (v2 := some (.int (q_bz r3.1))) ok_X15_isName ok_X15_eatAs cv_X15_eatAs (ct_X15_eatAs_492_P (d := 3) (Nat.le_refl _) hr3) rfl rfl (Or.inl rfl) rfl rfl rfl rfl (Nat.le_trans (Nat.le_of_ble_eq_true rfl) hd) (Nat.le_of_ble_eq_true rfl) (Nat.le_of_ble_eq_true rfl) (Nat.le_of_ble_eq_true rfl) (fun x hx => absurd hx List.not_mem_nil) (q_nmL0 _) (q_nmS0 _) rfl (pos' := 25) (st' := [.int (q_bz r3.1)]) (lI' := [(492, r3.2.1), (497, r3.2.2), (529, r2.1), (537, r2.2), (538, (q_up (I 538) j1 ((I 529) 14)))]) (lE' := []) rfl rfl (q_mgw rfl rfl) rfl ?_
  cases hf
  exact q_kri ok_X15_isName rfl rfl (q_bz_nr _) (Nat.le_of_ble_eq_true rfl) (Nat.le_of_ble_eq_true rfl) ⟨rfl, q_hpe (q_pdw [492, 497, 529, 537, 538] rfl rfl) (q_pdw [] rfl rfl)⟩
set_option maxHeartbeats 4000000 in
theorem ct_X15_isValue_492_P {g : q_G} {t : Nat} {r : Nat} {ext : Nat → q_Sh} {rx : Nat → Nat → Option Nat} {L : Nat → Nat → Int64} {d dR : Nat} (hd : dR + 5 ≤ d)  {r_isValue : (Nat → Int32) → (Nat → Int32) → (Nat → Int32) → (Nat → Int32) → (Nat → Int32) → (Nat → Int32) → (Nat → Int32) → (Nat → Int32) → (Nat → Int32) → Option (Bool × (Nat → Int32) × (Nat → Int32) × (Nat → Int32) × (Nat → Int32) × (Nat → Int32))} (hq_isValue : ∀ {I : Nat → Nat → Int32} {E : Nat → Nat → Option Nat} {r0 : Bool × (Nat → Int32) × (Nat → Int32) × (Nat → Int32) × (Nat → Int32) × (Nat → Int32)}, r_isValue ((I 492)) ((I 493)) ((I 494)) ((I 495)) ((I 496)) ((I 497)) ((I 529)) ((I 537)) ((I 538)) = some r0 → q_Ct g m_X15_isValue dR 0 0 [] [.ref 492] (q_hp (t, r, 0, 529, 539, (q_pE ext), (q_pR rx), L) I E) (fun o h' => o = .inl (some (.int (q_bz r0.1))) ∧ h' = q_hp (t, r, 0, 529, 539, (q_pE ext), (q_pR rx), L) (q_ws I [(492, r0.2.1), (497, r0.2.2.1), (529, r0.2.2.2.1), (537, r0.2.2.2.2.1), (538, r0.2.2.2.2.2)]) (q_ws E []))) {r_isSum : (Nat → Int32) → (Nat → Int32) → (Nat → Int32) → (Nat → Int32) → (Nat → Int32) → (Nat → Int32) → (Nat → Int32) → (Nat → Int32) → (Nat → Int32) → Option (Bool × (Nat → Int32) × (Nat → Int32) × (Nat → Int32) × (Nat → Int32) × (Nat → Int32))} (hq_isSum : ∀ {I : Nat → Nat → Int32} {E : Nat → Nat → Option Nat} {r0 : Bool × (Nat → Int32) × (Nat → Int32) × (Nat → Int32) × (Nat → Int32) × (Nat → Int32)}, r_isSum ((I 492)) ((I 493)) ((I 494)) ((I 495)) ((I 496)) ((I 497)) ((I 529)) ((I 537)) ((I 538)) = some r0 → q_Ct g m_X15_isSum dR 0 0 [] [.ref 492] (q_hp (t, r, 0, 529, 539, (q_pE ext), (q_pR rx), L) I E) (fun o h' => o = .inl (some (.int (q_bz r0.1))) ∧ h' = q_hp (t, r, 0, 529, 539, (q_pE ext), (q_pR rx), L) (q_ws I [(492, r0.2.1), (497, r0.2.2.1), (529, r0.2.2.2.1), (537, r0.2.2.2.2.1), (538, r0.2.2.2.2.2)]) (q_ws E []))){I : Nat → Nat → Int32} {E : Nat → Nat → Option Nat} {r0 : Bool × (Nat → Int32) × (Nat → Int32) × (Nat → Int32) × (Nat → Int32) × (Nat → Int32)} (hf : f_X15_isValue r_isValue r_isSum (I 492) (I 493) (I 494) (I 495) (I 496) (I 497) (I 529) (I 537) (I 538) = some r0) : q_Ct g m_X15_isValue d 0 0 [] [.ref 492] (q_hp (t, r, 0, 529, 539, (q_pE ext), (q_pR rx), L) I E) (fun o h' => o = .inl (some (.int (q_bz r0.1))) ∧ h' = q_hp (t, r, 0, 529, 539, (q_pE ext), (q_pR rx), L) (q_ws I [(492, r0.2.1), (497, r0.2.2.1), (529, r0.2.2.2.1), (537, r0.2.2.2.2.1), (538, r0.2.2.2.2.2)]) (q_ws E [])) := by
  rw [f_X15_isValue] at hf
  refine q_Ct_of ok_X15_isValue (Nat.le_of_ble_eq_true rfl) ?_ _ rfl rfl
  change q_J g m_X15_isValue d 0 0 _ [] _ 0 0 (q_kc (t, r, 0, 529, 539, (q_pE ext), (q_pR rx), L) I E 0 [some (.ref 492), none] [] [] [])
  obtain ⟨j1, hj1, hf⟩ := q_bd hf
  refine q_blk 8 [j1] (c' := q_kc (t, r, 0, 529, 539, (q_pE ext), (q_pR rx), L) I E 8 [some (.ref 492), some (.int ((I 494) j1))] [.int (41 : Int32), .ref 492] [] []) ok_X15_isValue rfl (q_cc hj1 q_cn) ?_
  obtain ⟨r2, hr2, hf⟩ := q_bd hf
  refine q_kV (M2 := m_X15_is) (As := [.int (41 : Int32)]) (b := 492) (v2 := some (.int (q_bz r2))) ok_X15_isValue ok_X15_is cv_X15_is (ct_X15_is_492_P (d := 1) (Nat.le_refl _) hr2) rfl rfl (Or.inl rfl) rfl rfl rfl rfl (by omega) (Nat.le_of_ble_eq_true rfl) (Nat.le_of_ble_eq_true rfl) (Nat.le_of_ble_eq_true rfl) (fun x hx => absurd hx List.not_mem_nil) (q_nmL0 _) (q_nmS0 _) rfl (pos' := 9) (st' := [.int (q_bz r2)]) (lI' := []) (lE' := []) rfl rfl rfl rfl ?_
  refine q_blf 0 [] (a := q_kc (t, r, 0, 529, 539, (q_pE ext), (q_pR rx), L) I E 27 [some (.ref 492), some (.int ((I 494) j1))] [] [] []) (b := q_kc (t, r, 0, 529, 539, (q_pE ext), (q_pR rx), L) I E 10 [some (.ref 492), some (.int ((I 494) j1))] [] [] []) (P := (q_bz r2) = 0) ok_X15_isValue rfl q_cn (fun h3 => ?_) (fun h3 => ?_)
  · have hf := q_ip h3 hf
    refine q_blf 2 [] (a := q_kc (t, r, 0, 529, 539, (q_pE ext), (q_pR rx), L) I E 44 [some (.ref 492), some (.int ((I 494) j1))] [] [] []) (b := q_kc (t, r, 0, 529, 539, (q_pE ext), (q_pR rx), L) I E 30 [some (.ref 492), some (.int ((I 494) j1))] [] [] []) (P := ((I 494) j1) < (16 : Int32)) ok_X15_isValue rfl q_cn (fun h4 => ?_) (fun h4 => ?_)
    · have hf := q_ip h4 hf
      refine q_blk 2 [] (c' := q_kc (t, r, 0, 529, 539, (q_pE ext), (q_pR rx), L) I E 46 [some (.ref 492), some (.int ((I 494) j1))] [.int (5 : Int32), .ref 492] [] []) ok_X15_isValue rfl q_cn ?_
      obtain ⟨r5, hr5, hf⟩ := q_bd hf
      refine q_kV (M2 := m_X15_is) (As := [.int (5 : Int32)]) (b := 492) (v2 := some (.int (q_bz r5))) ok_X15_isValue ok_X15_is cv_X15_is (ct_X15_is_492_P (d := 1) (Nat.le_refl _) hr5) rfl rfl (Or.inl rfl) rfl rfl rfl rfl (by omega) (Nat.le_of_ble_eq_true rfl) (Nat.le_of_ble_eq_true rfl) (Nat.le_of_ble_eq_true rfl) (fun x hx => absurd hx List.not_mem_nil) (q_nmL0 _) (q_nmS0 _) rfl (pos' := 47) (st' := [.int (q_bz r5)]) (lI' := []) (lE' := []) rfl rfl rfl rfl ?_
      refine q_blf 0 [] (a := q_kc (t, r, 0, 529, 539, (q_pE ext), (q_pR rx), L) I E 52 [some (.ref 492), some (.int ((I 494) j1))] [] [] []) (b := q_kc (t, r, 0, 529, 539, (q_pE ext), (q_pR rx), L) I E 48 [some (.ref 492), some (.int ((I 494) j1))] [] [] []) (P := ¬ (q_bz r5) = 0) ok_X15_isValue rfl q_cn (fun h6 => ?_) (fun h6 => ?_)
      · have hf := q_ip h6 hf
        refine q_blk 2 [] (c' := q_kc (t, r, 0, 529, 539, (q_pE ext), (q_pR rx), L) I E 54 [some (.ref 492), some (.int ((I 494) j1))] [.int ((I 494) j1), .ref 492] [] []) ok_X15_isValue rfl q_cn ?_
        obtain ⟨r7, hr7, hf⟩ := q_bd hf
        refine q_kV (M2 := m_X15_put) (As := [.int ((I 494) j1)]) (b := 492) (v2 := none) ok_X15_isValue ok_X15_put cv_X15_put (ct_X15_put_492_P (d := 1) (Nat.le_refl _) hr7) rfl rfl (Or.inl rfl) rfl rfl rfl rfl (by omega) (Nat.le_of_ble_eq_true rfl) (Nat.le_of_ble_eq_true rfl) (Nat.le_of_ble_eq_true rfl) (fun x hx => absurd hx List.not_mem_nil) (q_nmL0 _) (q_nmS0 _) rfl (pos' := 55) (st' := []) (lI' := [(529, r7.1), (537, r7.2)]) (lE' := []) rfl rfl (q_mgw rfl rfl) rfl ?_
        refine q_blk 8 [] (c' := q_kc (t, r, 0, 529, 539, (q_pE ext), (q_pR rx), L) I E 63 [some (.ref 492), some (.int ((I 494) j1))] [.int (13 : Int32), .ref 492] [(492, (q_up (I 492) 9 (((I 492) 9) + (1 : Int32)))), (529, r7.1), (537, r7.2)] []) ok_X15_isValue rfl q_cn ?_
        obtain ⟨r8, hr8, hf⟩ := q_bd hf
        refine q_kV (M2 := m_X15_eat) (As := [.int (13 : Int32)]) (b := 492) (v2 := some (.int (q_bz r8.1))) ok_X15_isValue ok_X15_eat cv_X15_eat (ct_X15_eat_492_P (d := 2) (Nat.le_refl _) hr8) rfl rfl (Or.inl rfl) rfl rfl rfl rfl (by omega) (Nat.le_of_ble_eq_true rfl) (Nat.le_of_ble_eq_true rfl) (Nat.le_of_ble_eq_true rfl) (fun x hx => absurd hx List.not_mem_nil) (q_nmL0 _) (q_nmS0 _) rfl (pos' := 64) (st' := [.int (q_bz r8.1)]) (lI' := [(492, r8.2), (529, r7.1), (537, r7.2)]) (lE' := []) rfl rfl (q_mgw rfl rfl) rfl ?_
        refine q_blf 0 [] (a := q_kc (t, r, 0, 529, 539, (q_pE ext), (q_pR rx), L) I E 71 [some (.ref 492), some (.int ((I 494) j1))] [] [(492, r8.2), (529, r7.1), (537, r7.2)] []) (b := q_kc (t, r, 0, 529, 539, (q_pE ext), (q_pR rx), L) I E 65 [some (.ref 492), some (.int ((I 494) j1))] [] [(492, r8.2), (529, r7.1), (537, r7.2)] []) (P := (q_bz r8.1) = 0) ok_X15_isValue rfl q_cn (fun h9 => ?_) (fun h9 => ?_)
        · have hf := q_ip h9 hf
          refine q_blk 1 [] (c' := q_kc (t, r, 0, 529, 539, (q_pE ext), (q_pR rx), L) I E 72 [some (.ref 492), some (.int ((I 494) j1))] [.int (0 : Int32)] [(492, r8.2), (529, r7.1), (537, r7.2)] []) ok_X15_isValue rfl q_cn ?_
          cases hf
          exact q_kri ok_X15_isValue rfl rfl rfl (Nat.le_of_ble_eq_true rfl) (Nat.le_of_ble_eq_true rfl) ⟨rfl, q_hpe (q_pdw [492, 497, 529, 537, 538] rfl rfl) (q_pdw [] rfl rfl)⟩
        · have hf := q_in h9 hf
          refine q_blk 2 [] (c' := q_kc (t, r, 0, 529, 539, (q_pE ext), (q_pR rx), L) I E 67 [some (.ref 492), some (.int ((I 494) j1))] [.int (5 : Int32), .ref 492] [(492, r8.2), (529, r7.1), (537, r7.2)] []) ok_X15_isValue rfl q_cn ?_
          obtain ⟨r10, hr10, hf⟩ := q_bd hf
          refine q_kV (M2 := m_X15_isName) (As := [.int (5 : Int32)]) (b := 492) (v2 := some (.int (q_bz r10.1))) ok_X15_isValue ok_X15_isName cv_X15_isName (ct_X15_isName_492_P (d := 4) (Nat.le_refl _) hr10) rfl rfl (Or.inl rfl) rfl rfl rfl rfl (by omega) (Nat.le_of_ble_eq_true rfl) (Nat.le_of_ble_eq_true rfl) (Nat.le_of_ble_eq_true rfl) (fun x hx => absurd hx List.not_mem_nil) (q_nmL0 _) (q_nmS0 _) rfl (pos' := 68) (st' := [.int (q_bz r10.1)]) (lI' := [(492, r10.2.1), (497, r10.2.2.1), (529, r10.2.2.2.1), (537, r10.2.2.2.2.1), (538, r10.2.2.2.2.2)]) (lE' := []) rfl rfl (q_mgw rfl rfl) rfl ?_
          refine q_blf 0 [] (a := q_kc (t, r, 0, 529, 539, (q_pE ext), (q_pR rx), L) I E 71 [some (.ref 492), some (.int ((I 494) j1))] [] [(492, r10.2.1), (497, r10.2.2.1), (529, r10.2.2.2.1), (537, r10.2.2.2.2.1), (538, r10.2.2.2.2.2)] []) (b := q_kc (t, r, 0, 529, 539, (q_pE ext), (q_pR rx), L) I E 69 [some (.ref 492), some (.int ((I 494) j1))] [] [(492, r10.2.1), (497, r10.2.2.1), (529, r10.2.2.2.1), (537, r10.2.2.2.2.1), (538, r10.2.2.2.2.2)] []) (P := (q_bz r10.1) = 0) ok_X15_isValue rfl q_cn (fun h11 => ?_) (fun h11 => ?_)
          · have hf := q_ip h11 hf
            refine q_blk 1 [] (c' := q_kc (t, r, 0, 529, 539, (q_pE ext), (q_pR rx), L) I E 72 [some (.ref 492), some (.int ((I 494) j1))] [.int (0 : Int32)] [(492, r10.2.1), (497, r10.2.2.1), (529, r10.2.2.2.1), (537, r10.2.2.2.2.1), (538, r10.2.2.2.2.2)] []) ok_X15_isValue rfl q_cn ?_
            cases hf
            exact q_kri ok_X15_isValue rfl rfl rfl (Nat.le_of_ble_eq_true rfl) (Nat.le_of_ble_eq_true rfl) ⟨rfl, q_hpe (q_pdw [492, 497, 529, 537, 538] rfl rfl) (q_pdw [] rfl rfl)⟩
          · have hf := q_in h11 hf
            refine q_blk 2 [] (c' := q_kc (t, r, 0, 529, 539, (q_pE ext), (q_pR rx), L) I E 72 [some (.ref 492), some (.int ((I 494) j1))] [.int (1 : Int32)] [(492, r10.2.1), (497, r10.2.2.1), (529, r10.2.2.2.1), (537, r10.2.2.2.2.1), (538, r10.2.2.2.2.2)] []) ok_X15_isValue rfl q_cn ?_
            cases hf
            exact q_kri ok_X15_isValue rfl rfl rfl (Nat.le_of_ble_eq_true rfl) (Nat.le_of_ble_eq_true rfl) ⟨rfl, q_hpe (q_pdw [492, 497, 529, 537, 538] rfl rfl) (q_pdw [] rfl rfl)⟩
      · have hf := q_in h6 hf
        refine q_blk 2 [] (c' := q_kc (t, r, 0, 529, 539, (q_pE ext), (q_pR rx), L) I E 50 [some (.ref 492), some (.int ((I 494) j1))] [.int (21 : Int32), .ref 492] [] []) ok_X15_isValue rfl q_cn ?_
        obtain ⟨r12, hr12, hf⟩ := q_bd hf
        refine q_kV (M2 := m_X15_is) (As := [.int (21 : Int32)]) (b := 492) (v2 := some (.int (q_bz r12))) ok_X15_isValue ok_X15_is cv_X15_is (ct_X15_is_492_P (d := 1) (Nat.le_refl _) hr12) rfl rfl (Or.inl rfl) rfl rfl rfl rfl (by omega) (Nat.le_of_ble_eq_true rfl) (Nat.le_of_ble_eq_true rfl) (Nat.le_of_ble_eq_true rfl) (fun x hx => absurd hx List.not_mem_nil) (q_nmL0 _) (q_nmS0 _) rfl (pos' := 51) (st' := [.int (q_bz r12)]) (lI' := []) (lE' := []) rfl rfl rfl rfl ?_
        refine q_blf 0 [] (a := q_kc (t, r, 0, 529, 539, (q_pE ext), (q_pR rx), L) I E 73 [some (.ref 492), some (.int ((I 494) j1))] [] [] []) (b := q_kc (t, r, 0, 529, 539, (q_pE ext), (q_pR rx), L) I E 52 [some (.ref 492), some (.int ((I 494) j1))] [] [] []) (P := (q_bz r12) = 0) ok_X15_isValue rfl q_cn (fun h13 => ?_) (fun h13 => ?_)
        · have hf := q_ip h13 hf
          refine q_blk 2 [] (c' := q_kc (t, r, 0, 529, 539, (q_pE ext), (q_pR rx), L) I E 75 [some (.ref 492), some (.int ((I 494) j1))] [.int (45 : Int32), .ref 492] [] []) ok_X15_isValue rfl q_cn ?_
          obtain ⟨r14, hr14, hf⟩ := q_bd hf
          refine q_kV (M2 := m_X15_isSign) (As := [.int (45 : Int32)]) (b := 492) (v2 := some (.int (q_bz r14))) ok_X15_isValue ok_X15_isSign cv_X15_isSign (ct_X15_isSign_492_P (d := 1) (Nat.le_refl _) hr14) rfl rfl (Or.inl rfl) rfl rfl rfl rfl (by omega) (Nat.le_of_ble_eq_true rfl) (Nat.le_of_ble_eq_true rfl) (Nat.le_of_ble_eq_true rfl) (fun x hx => absurd hx List.not_mem_nil) (q_nmL0 _) (q_nmS0 _) rfl (pos' := 76) (st' := [.int (q_bz r14)]) (lI' := []) (lE' := []) rfl rfl rfl rfl ?_
          refine q_blf 0 [] (a := q_kc (t, r, 0, 529, 539, (q_pE ext), (q_pR rx), L) I E 96 [some (.ref 492), some (.int ((I 494) j1))] [] [] []) (b := q_kc (t, r, 0, 529, 539, (q_pE ext), (q_pR rx), L) I E 77 [some (.ref 492), some (.int ((I 494) j1))] [] [] []) (P := (q_bz r14) = 0) ok_X15_isValue rfl q_cn (fun h15 => ?_) (fun h15 => ?_)
          · have hf := q_ip h15 hf
            refine q_blk 4 [] (c' := q_kc (t, r, 0, 529, 539, (q_pE ext), (q_pR rx), L) I E 100 [some (.ref 492), some (.int ((I 494) j1))] [.int (27 : Int32), .ref 492, .int ((I 494) j1), .ref 492] [] []) ok_X15_isValue rfl q_cn ?_
            obtain ⟨r16, hr16, hf⟩ := q_bd hf
            refine q_kV (M2 := m_X15_eat) (As := [.int (27 : Int32)]) (b := 492) (v2 := some (.int (q_bz r16.1))) ok_X15_isValue ok_X15_eat cv_X15_eat (ct_X15_eat_492_P (d := 2) (Nat.le_refl _) hr16) rfl rfl (Or.inl rfl) rfl rfl rfl rfl (by omega) (Nat.le_of_ble_eq_true rfl) (Nat.le_of_ble_eq_true rfl) (Nat.le_of_ble_eq_true rfl) (fun x hx => absurd hx List.not_mem_nil) (q_nmL0 _) (q_nmS0 _) rfl (pos' := 101) (st' := [.int (q_bz r16.1), .int ((I 494) j1), .ref 492]) (lI' := [(492, r16.2)]) (lE' := []) rfl rfl (q_mgw rfl rfl) rfl ?_
            refine q_blf 0 [] (a := q_kc (t, r, 0, 529, 539, (q_pE ext), (q_pR rx), L) I E 106 [some (.ref 492), some (.int ((I 494) j1))] [.int ((I 494) j1), .ref 492] [(492, r16.2)] []) (b := q_kc (t, r, 0, 529, 539, (q_pE ext), (q_pR rx), L) I E 102 [some (.ref 492), some (.int ((I 494) j1))] [.int ((I 494) j1), .ref 492] [(492, r16.2)] []) (P := ¬ (q_bz r16.1) = 0) ok_X15_isValue rfl q_cn (fun h17 => ?_) (fun h17 => ?_)
            · have hf := q_ip h17 hf
              refine q_blk 2 [] (c' := q_kc (t, r, 0, 529, 539, (q_pE ext), (q_pR rx), L) I E 109 [some (.ref 492), some (.int ((I 494) j1))] [.int (1 : Int32), .int ((I 494) j1), .ref 492] [(492, r16.2)] []) ok_X15_isValue rfl q_cn ?_
              obtain ⟨r18, hr18, hf⟩ := q_bd hf
              refine q_kV (M2 := m_X15_isInside) (As := [.int ((I 494) j1), .int (q_bz true)]) (b := 492) (v2 := some (.int (q_bz r18.1))) ok_X15_isValue ok_X15_isInside cv_X15_isInside (ct_X15_isInside_492_P (d := dR + 4) (Nat.le_refl _) hq_isSum hr18) rfl rfl (Or.inl rfl) rfl rfl rfl rfl (by omega) (Nat.le_of_ble_eq_true rfl) (Nat.le_of_ble_eq_true rfl) (Nat.le_of_ble_eq_true rfl) (fun x hx => absurd hx List.not_mem_nil) (q_nmL0 _) (q_nmS0 _) rfl (pos' := 110) (st' := [.int (q_bz r18.1)]) (lI' := [(492, r18.2.1), (497, r18.2.2.1), (529, r18.2.2.2.1), (537, r18.2.2.2.2.1), (538, r18.2.2.2.2.2)]) (lE' := []) rfl rfl (q_mgw rfl rfl) rfl ?_
              cases hf
              exact q_kri ok_X15_isValue rfl rfl (q_bz_nr _) (Nat.le_of_ble_eq_true rfl) (Nat.le_of_ble_eq_true rfl) ⟨rfl, q_hpe (q_pdw [492, 497, 529, 537, 538] rfl rfl) (q_pdw [] rfl rfl)⟩
            · have hf := q_in h17 hf
              refine q_blk 2 [] (c' := q_kc (t, r, 0, 529, 539, (q_pE ext), (q_pR rx), L) I E 104 [some (.ref 492), some (.int ((I 494) j1))] [.int (28 : Int32), .ref 492, .int ((I 494) j1), .ref 492] [(492, r16.2)] []) ok_X15_isValue rfl q_cn ?_
              obtain ⟨r19, hr19, hf⟩ := q_bd hf
              refine q_kV (M2 := m_X15_eat) (As := [.int (28 : Int32)]) (b := 492) (v2 := some (.int (q_bz r19.1))) ok_X15_isValue ok_X15_eat cv_X15_eat (ct_X15_eat_492_P (d := 2) (Nat.le_refl _) hr19) rfl rfl (Or.inl rfl) rfl rfl rfl rfl (by omega) (Nat.le_of_ble_eq_true rfl) (Nat.le_of_ble_eq_true rfl) (Nat.le_of_ble_eq_true rfl) (fun x hx => absurd hx List.not_mem_nil) (q_nmL0 _) (q_nmS0 _) rfl (pos' := 105) (st' := [.int (q_bz r19.1), .int ((I 494) j1), .ref 492]) (lI' := [(492, r19.2)]) (lE' := []) rfl rfl (q_mgw rfl rfl) rfl ?_
              refine q_blf 0 [] (a := q_kc (t, r, 0, 529, 539, (q_pE ext), (q_pR rx), L) I E 108 [some (.ref 492), some (.int ((I 494) j1))] [.int ((I 494) j1), .ref 492] [(492, r19.2)] []) (b := q_kc (t, r, 0, 529, 539, (q_pE ext), (q_pR rx), L) I E 106 [some (.ref 492), some (.int ((I 494) j1))] [.int ((I 494) j1), .ref 492] [(492, r19.2)] []) (P := (q_bz r19.1) = 0) ok_X15_isValue rfl q_cn (fun h20 => ?_) (fun h20 => ?_)
              · have hf := q_ip h20 hf
                refine q_blk 1 [] (c' := q_kc (t, r, 0, 529, 539, (q_pE ext), (q_pR rx), L) I E 109 [some (.ref 492), some (.int ((I 494) j1))] [.int (0 : Int32), .int ((I 494) j1), .ref 492] [(492, r19.2)] []) ok_X15_isValue rfl q_cn ?_
                obtain ⟨r21, hr21, hf⟩ := q_bd hf
                refine q_kV (M2 := m_X15_isInside) (As := [.int ((I 494) j1), .int (q_bz false)]) (b := 492) (v2 := some (.int (q_bz r21.1))) ok_X15_isValue ok_X15_isInside cv_X15_isInside (ct_X15_isInside_492_P (d := dR + 4) (Nat.le_refl _) hq_isSum hr21) rfl rfl (Or.inl rfl) rfl rfl rfl rfl (by omega) (Nat.le_of_ble_eq_true rfl) (Nat.le_of_ble_eq_true rfl) (Nat.le_of_ble_eq_true rfl) (fun x hx => absurd hx List.not_mem_nil) (q_nmL0 _) (q_nmS0 _) rfl (pos' := 110) (st' := [.int (q_bz r21.1)]) (lI' := [(492, r21.2.1), (497, r21.2.2.1), (529, r21.2.2.2.1), (537, r21.2.2.2.2.1), (538, r21.2.2.2.2.2)]) (lE' := []) rfl rfl (q_mgw rfl rfl) rfl ?_
                cases hf
                exact q_kri ok_X15_isValue rfl rfl (q_bz_nr _) (Nat.le_of_ble_eq_true rfl) (Nat.le_of_ble_eq_true rfl) ⟨rfl, q_hpe (q_pdw [492, 497, 529, 537, 538] rfl rfl) (q_pdw [] rfl rfl)⟩
              · have hf := q_in h20 hf
                refine q_blk 2 [] (c' := q_kc (t, r, 0, 529, 539, (q_pE ext), (q_pR rx), L) I E 109 [some (.ref 492), some (.int ((I 494) j1))] [.int (1 : Int32), .int ((I 494) j1), .ref 492] [(492, r19.2)] []) ok_X15_isValue rfl q_cn ?_
                obtain ⟨r22, hr22, hf⟩ := q_bd hf
                refine q_kV (M2 := m_X15_isInside) (As := [.int ((I 494) j1), .int (q_bz true)]) (b := 492) (v2 := some (.int (q_bz r22.1))) ok_X15_isValue ok_X15_isInside cv_X15_isInside (ct_X15_isInside_492_P (d := dR + 4) (Nat.le_refl _) hq_isSum hr22) rfl rfl (Or.inl rfl) rfl rfl rfl rfl (by omega) (Nat.le_of_ble_eq_true rfl) (Nat.le_of_ble_eq_true rfl) (Nat.le_of_ble_eq_true rfl) (fun x hx => absurd hx List.not_mem_nil) (q_nmL0 _) (q_nmS0 _) rfl (pos' := 110) (st' := [.int (q_bz r22.1)]) (lI' := [(492, r22.2.1), (497, r22.2.2.1), (529, r22.2.2.2.1), (537, r22.2.2.2.2.1), (538, r22.2.2.2.2.2)]) (lE' := []) rfl rfl (q_mgw rfl rfl) rfl ?_
                cases hf
                exact q_kri ok_X15_isValue rfl rfl (q_bz_nr _) (Nat.le_of_ble_eq_true rfl) (Nat.le_of_ble_eq_true rfl) ⟨rfl, q_hpe (q_pdw [492, 497, 529, 537, 538] rfl rfl) (q_pdw [] rfl rfl)⟩
          · have hf := q_in h15 hf
            refine q_blk 1 [] (c' := q_kc (t, r, 0, 529, 539, (q_pE ext), (q_pR rx), L) I E 78 [some (.ref 492), some (.int ((I 494) j1))] [.ref 492] [] []) ok_X15_isValue rfl q_cn ?_
            obtain ⟨r23, hr23, hf⟩ := q_bd hf
            refine q_kV (M2 := m_X15_isDeeper) (As := []) (b := 492) (v2 := some (.int (q_bz r23.1))) ok_X15_isValue ok_X15_isDeeper cv_X15_isDeeper (ct_X15_isDeeper_492_P (d := 1) (Nat.le_refl _) hr23) rfl rfl (Or.inl rfl) rfl rfl rfl rfl (by omega) (Nat.le_of_ble_eq_true rfl) (Nat.le_of_ble_eq_true rfl) (Nat.le_of_ble_eq_true rfl) (fun x hx => absurd hx List.not_mem_nil) (q_nmL0 _) (q_nmS0 _) rfl (pos' := 79) (st' := [.int (q_bz r23.1)]) (lI' := [(492, r23.2)]) (lE' := []) rfl rfl (q_mgw rfl rfl) rfl ?_
            refine q_blf 0 [] (a := q_kc (t, r, 0, 529, 539, (q_pE ext), (q_pR rx), L) I E 83 [some (.ref 492), some (.int ((I 494) j1))] [] [(492, r23.2)] []) (b := q_kc (t, r, 0, 529, 539, (q_pE ext), (q_pR rx), L) I E 80 [some (.ref 492), some (.int ((I 494) j1))] [] [(492, r23.2)] []) (P := (q_bz r23.1) = 0) ok_X15_isValue rfl q_cn (fun h24 => ?_) (fun h24 => ?_)
            · have hf := q_ip h24 hf
              refine q_blk 1 [] (c' := q_kc (t, r, 0, 529, 539, (q_pE ext), (q_pR rx), L) I E 84 [some (.ref 492), some (.int ((I 494) j1))] [.int (0 : Int32)] [(492, r23.2)] []) ok_X15_isValue rfl q_cn ?_
              cases hf
              exact q_kri ok_X15_isValue rfl rfl rfl (Nat.le_of_ble_eq_true rfl) (Nat.le_of_ble_eq_true rfl) ⟨rfl, q_hpe (q_pdw [492, 497, 529, 537, 538] rfl rfl) (q_pdw [] rfl rfl)⟩
            · have hf := q_in h24 hf
              refine q_blk 1 [] (c' := q_kc (t, r, 0, 529, 539, (q_pE ext), (q_pR rx), L) I E 81 [some (.ref 492), some (.int ((I 494) j1))] [.ref 492] [(492, r23.2)] []) ok_X15_isValue rfl q_cn ?_
              obtain ⟨r25, hr25, hf⟩ := q_bd hf
              refine q_kV (M2 := m_X15_isValue) (As := []) (b := 492) (v2 := some (.int (q_bz r25.1))) ok_X15_isValue ok_X15_isValue cv_X15_isValue (hq_isValue hr25) rfl rfl (Or.inl rfl) rfl rfl rfl rfl (by omega) (Nat.le_of_ble_eq_true rfl) (Nat.le_of_ble_eq_true rfl) (Nat.le_of_ble_eq_true rfl) (fun x hx => absurd hx List.not_mem_nil) (q_nmL0 _) (q_nmS0 _) rfl (pos' := 82) (st' := [.int (q_bz r25.1)]) (lI' := [(492, r25.2.1), (497, r25.2.2.1), (529, r25.2.2.2.1), (537, r25.2.2.2.2.1), (538, r25.2.2.2.2.2)]) (lE' := []) rfl rfl (q_mgw rfl rfl) rfl ?_
              refine q_blf 0 [] (a := q_kc (t, r, 0, 529, 539, (q_pE ext), (q_pR rx), L) I E 85 [some (.ref 492), some (.int ((I 494) j1))] [] [(492, r25.2.1), (497, r25.2.2.1), (529, r25.2.2.2.1), (537, r25.2.2.2.2.1), (538, r25.2.2.2.2.2)] []) (b := q_kc (t, r, 0, 529, 539, (q_pE ext), (q_pR rx), L) I E 83 [some (.ref 492), some (.int ((I 494) j1))] [] [(492, r25.2.1), (497, r25.2.2.1), (529, r25.2.2.2.1), (537, r25.2.2.2.2.1), (538, r25.2.2.2.2.2)] []) (P := ¬ (q_bz r25.1) = 0) ok_X15_isValue rfl q_cn (fun h26 => ?_) (fun h26 => ?_)
              · have hf := q_ip h26 hf
                refine q_blk 8 [] (c' := q_kc (t, r, 0, 529, 539, (q_pE ext), (q_pR rx), L) I E 93 [some (.ref 492), some (.int ((I 494) j1))] [.int (33 : Int32), .ref 492] [(492, (q_up r25.2.1 10 ((r25.2.1 10) - (1 : Int32)))), (497, r25.2.2.1), (529, r25.2.2.2.1), (537, r25.2.2.2.2.1), (538, r25.2.2.2.2.2)] []) ok_X15_isValue rfl q_cn ?_
                obtain ⟨r27, hr27, hf⟩ := q_bd hf
                refine q_kV (M2 := m_X15_put) (As := [.int (33 : Int32)]) (b := 492) (v2 := none) ok_X15_isValue ok_X15_put cv_X15_put (ct_X15_put_492_P (d := 1) (Nat.le_refl _) hr27) rfl rfl (Or.inl rfl) rfl rfl rfl rfl (by omega) (Nat.le_of_ble_eq_true rfl) (Nat.le_of_ble_eq_true rfl) (Nat.le_of_ble_eq_true rfl) (fun x hx => absurd hx List.not_mem_nil) (q_nmL0 _) (q_nmS0 _) rfl (pos' := 94) (st' := []) (lI' := [(492, (q_up r25.2.1 10 ((r25.2.1 10) - (1 : Int32)))), (497, r25.2.2.1), (529, r27.1), (537, r27.2), (538, r25.2.2.2.2.2)]) (lE' := []) rfl rfl (q_mgw rfl rfl) rfl ?_
                refine q_blk 1 [] (c' := q_kc (t, r, 0, 529, 539, (q_pE ext), (q_pR rx), L) I E 95 [some (.ref 492), some (.int ((I 494) j1))] [.int (1 : Int32)] [(492, (q_up r25.2.1 10 ((r25.2.1 10) - (1 : Int32)))), (497, r25.2.2.1), (529, r27.1), (537, r27.2), (538, r25.2.2.2.2.2)] []) ok_X15_isValue rfl q_cn ?_
                cases hf
                exact q_kri ok_X15_isValue rfl rfl rfl (Nat.le_of_ble_eq_true rfl) (Nat.le_of_ble_eq_true rfl) ⟨rfl, q_hpe (q_pdw [492, 497, 529, 537, 538] rfl rfl) (q_pdw [] rfl rfl)⟩
              · have hf := q_in h26 hf
                refine q_blk 1 [] (c' := q_kc (t, r, 0, 529, 539, (q_pE ext), (q_pR rx), L) I E 84 [some (.ref 492), some (.int ((I 494) j1))] [.int (0 : Int32)] [(492, r25.2.1), (497, r25.2.2.1), (529, r25.2.2.2.1), (537, r25.2.2.2.2.1), (538, r25.2.2.2.2.2)] []) ok_X15_isValue rfl q_cn ?_
                cases hf
                exact q_kri ok_X15_isValue rfl rfl rfl (Nat.le_of_ble_eq_true rfl) (Nat.le_of_ble_eq_true rfl) ⟨rfl, q_hpe (q_pdw [492, 497, 529, 537, 538] rfl rfl) (q_pdw [] rfl rfl)⟩
        · have hf := q_in h13 hf
          refine q_blk 2 [] (c' := q_kc (t, r, 0, 529, 539, (q_pE ext), (q_pR rx), L) I E 54 [some (.ref 492), some (.int ((I 494) j1))] [.int ((I 494) j1), .ref 492] [] []) ok_X15_isValue rfl q_cn ?_
          obtain ⟨r28, hr28, hf⟩ := q_bd hf
          refine q_kV (M2 := m_X15_put) (As := [.int ((I 494) j1)]) (b := 492) (v2 := none) ok_X15_isValue ok_X15_put cv_X15_put (ct_X15_put_492_P (d := 1) (Nat.le_refl _) hr28) rfl rfl (Or.inl rfl) rfl rfl rfl rfl (by omega) (Nat.le_of_ble_eq_true rfl) (Nat.le_of_ble_eq_true rfl) (Nat.le_of_ble_eq_true rfl) (fun x hx => absurd hx List.not_mem_nil) (q_nmL0 _) (q_nmS0 _) rfl (pos' := 55) (st' := []) (lI' := [(529, r28.1), (537, r28.2)]) (lE' := []) rfl rfl (q_mgw rfl rfl) rfl ?_
          refine q_blk 8 [] (c' := q_kc (t, r, 0, 529, 539, (q_pE ext), (q_pR rx), L) I E 63 [some (.ref 492), some (.int ((I 494) j1))] [.int (13 : Int32), .ref 492] [(492, (q_up (I 492) 9 (((I 492) 9) + (1 : Int32)))), (529, r28.1), (537, r28.2)] []) ok_X15_isValue rfl q_cn ?_
          obtain ⟨r29, hr29, hf⟩ := q_bd hf
          refine q_kV (M2 := m_X15_eat) (As := [.int (13 : Int32)]) (b := 492) (v2 := some (.int (q_bz r29.1))) ok_X15_isValue ok_X15_eat cv_X15_eat (ct_X15_eat_492_P (d := 2) (Nat.le_refl _) hr29) rfl rfl (Or.inl rfl) rfl rfl rfl rfl (by omega) (Nat.le_of_ble_eq_true rfl) (Nat.le_of_ble_eq_true rfl) (Nat.le_of_ble_eq_true rfl) (fun x hx => absurd hx List.not_mem_nil) (q_nmL0 _) (q_nmS0 _) rfl (pos' := 64) (st' := [.int (q_bz r29.1)]) (lI' := [(492, r29.2), (529, r28.1), (537, r28.2)]) (lE' := []) rfl rfl (q_mgw rfl rfl) rfl ?_
          refine q_blf 0 [] (a := q_kc (t, r, 0, 529, 539, (q_pE ext), (q_pR rx), L) I E 71 [some (.ref 492), some (.int ((I 494) j1))] [] [(492, r29.2), (529, r28.1), (537, r28.2)] []) (b := q_kc (t, r, 0, 529, 539, (q_pE ext), (q_pR rx), L) I E 65 [some (.ref 492), some (.int ((I 494) j1))] [] [(492, r29.2), (529, r28.1), (537, r28.2)] []) (P := (q_bz r29.1) = 0) ok_X15_isValue rfl q_cn (fun h30 => ?_) (fun h30 => ?_)
          · have hf := q_ip h30 hf
            refine q_blk 1 [] (c' := q_kc (t, r, 0, 529, 539, (q_pE ext), (q_pR rx), L) I E 72 [some (.ref 492), some (.int ((I 494) j1))] [.int (0 : Int32)] [(492, r29.2), (529, r28.1), (537, r28.2)] []) ok_X15_isValue rfl q_cn ?_
            cases hf
            exact q_kri ok_X15_isValue rfl rfl rfl (Nat.le_of_ble_eq_true rfl) (Nat.le_of_ble_eq_true rfl) ⟨rfl, q_hpe (q_pdw [492, 497, 529, 537, 538] rfl rfl) (q_pdw [] rfl rfl)⟩
          · have hf := q_in h30 hf
            refine q_blk 2 [] (c' := q_kc (t, r, 0, 529, 539, (q_pE ext), (q_pR rx), L) I E 67 [some (.ref 492), some (.int ((I 494) j1))] [.int (5 : Int32), .ref 492] [(492, r29.2), (529, r28.1), (537, r28.2)] []) ok_X15_isValue rfl q_cn ?_
            obtain ⟨r31, hr31, hf⟩ := q_bd hf
            refine q_kV (M2 := m_X15_isName) (As := [.int (5 : Int32)]) (b := 492) (v2 := some (.int (q_bz r31.1))) ok_X15_isValue ok_X15_isName cv_X15_isName (ct_X15_isName_492_P (d := 4) (Nat.le_refl _) hr31) rfl rfl (Or.inl rfl) rfl rfl rfl rfl (by omega) (Nat.le_of_ble_eq_true rfl) (Nat.le_of_ble_eq_true rfl) (Nat.le_of_ble_eq_true rfl) (fun x hx => absurd hx List.not_mem_nil) (q_nmL0 _) (q_nmS0 _) rfl (pos' := 68) (st' := [.int (q_bz r31.1)]) (lI' := [(492, r31.2.1), (497, r31.2.2.1), (529, r31.2.2.2.1), (537, r31.2.2.2.2.1), (538, r31.2.2.2.2.2)]) (lE' := []) rfl rfl (q_mgw rfl rfl) rfl ?_
            refine q_blf 0 [] (a := q_kc (t, r, 0, 529, 539, (q_pE ext), (q_pR rx), L) I E 71 [some (.ref 492), some (.int ((I 494) j1))] [] [(492, r31.2.1), (497, r31.2.2.1), (529, r31.2.2.2.1), (537, r31.2.2.2.2.1), (538, r31.2.2.2.2.2)] []) (b := q_kc (t, r, 0, 529, 539, (q_pE ext), (q_pR rx), L) I E 69 [some (.ref 492), some (.int ((I 494) j1))] [] [(492, r31.2.1), (497, r31.2.2.1), (529, r31.2.2.2.1), (537, r31.2.2.2.2.1), (538, r31.2.2.2.2.2)] []) (P := (q_bz r31.1) = 0) ok_X15_isValue rfl q_cn (fun h32 => ?_) (fun h32 => ?_)
            · have hf := q_ip h32 hf
              refine q_blk 1 [] (c' := q_kc (t, r, 0, 529, 539, (q_pE ext), (q_pR rx), L) I E 72 [some (.ref 492), some (.int ((I 494) j1))] [.int (0 : Int32)] [(492, r31.2.1), (497, r31.2.2.1), (529, r31.2.2.2.1), (537, r31.2.2.2.2.1), (538, r31.2.2.2.2.2)] []) ok_X15_isValue rfl q_cn ?_
              cases hf
              exact q_kri ok_X15_isValue rfl rfl rfl (Nat.le_of_ble_eq_true rfl) (Nat.le_of_ble_eq_true rfl) ⟨rfl, q_hpe (q_pdw [492, 497, 529, 537, 538] rfl rfl) (q_pdw [] rfl rfl)⟩
            · have hf := q_in h32 hf
              refine q_blk 2 [] (c' := q_kc (t, r, 0, 529, 539, (q_pE ext), (q_pR rx), L) I E 72 [some (.ref 492), some (.int ((I 494) j1))] [.int (1 : Int32)] [(492, r31.2.1), (497, r31.2.2.1), (529, r31.2.2.2.1), (537, r31.2.2.2.2.1), (538, r31.2.2.2.2.2)] []) ok_X15_isValue rfl q_cn ?_
              cases hf
              exact q_kri ok_X15_isValue rfl rfl rfl (Nat.le_of_ble_eq_true rfl) (Nat.le_of_ble_eq_true rfl) ⟨rfl, q_hpe (q_pdw [492, 497, 529, 537, 538] rfl rfl) (q_pdw [] rfl rfl)⟩
    · have hf := q_in h4 hf
      refine q_blf 2 [] (a := q_kc (t, r, 0, 529, 539, (q_pE ext), (q_pR rx), L) I E 44 [some (.ref 492), some (.int ((I 494) j1))] [] [] []) (b := q_kc (t, r, 0, 529, 539, (q_pE ext), (q_pR rx), L) I E 33 [some (.ref 492), some (.int ((I 494) j1))] [] [] []) (P := (20 : Int32) < ((I 494) j1)) ok_X15_isValue rfl q_cn (fun h33 => ?_) (fun h33 => ?_)
      · have hf := q_ip h33 hf
        refine q_blk 2 [] (c' := q_kc (t, r, 0, 529, 539, (q_pE ext), (q_pR rx), L) I E 46 [some (.ref 492), some (.int ((I 494) j1))] [.int (5 : Int32), .ref 492] [] []) ok_X15_isValue rfl q_cn ?_
        obtain ⟨r34, hr34, hf⟩ := q_bd hf
        refine q_kV (M2 := m_X15_is) (As := [.int (5 : Int32)]) (b := 492) (v2 := some (.int (q_bz r34))) ok_X15_isValue ok_X15_is cv_X15_is (ct_X15_is_492_P (d := 1) (Nat.le_refl _) hr34) rfl rfl (Or.inl rfl) rfl rfl rfl rfl (by omega) (Nat.le_of_ble_eq_true rfl) (Nat.le_of_ble_eq_true rfl) (Nat.le_of_ble_eq_true rfl) (fun x hx => absurd hx List.not_mem_nil) (q_nmL0 _) (q_nmS0 _) rfl (pos' := 47) (st' := [.int (q_bz r34)]) (lI' := []) (lE' := []) rfl rfl rfl rfl ?_
        refine q_blf 0 [] (a := q_kc (t, r, 0, 529, 539, (q_pE ext), (q_pR rx), L) I E 52 [some (.ref 492), some (.int ((I 494) j1))] [] [] []) (b := q_kc (t, r, 0, 529, 539, (q_pE ext), (q_pR rx), L) I E 48 [some (.ref 492), some (.int ((I 494) j1))] [] [] []) (P := ¬ (q_bz r34) = 0) ok_X15_isValue rfl q_cn (fun h35 => ?_) (fun h35 => ?_)
        · have hf := q_ip h35 hf
          refine q_blk 2 [] (c' := q_kc (t, r, 0, 529, 539, (q_pE ext), (q_pR rx), L) I E 54 [some (.ref 492), some (.int ((I 494) j1))] [.int ((I 494) j1), .ref 492] [] []) ok_X15_isValue rfl q_cn ?_
          obtain ⟨r36, hr36, hf⟩ := q_bd hf
          refine q_kV (M2 := m_X15_put) (As := [.int ((I 494) j1)]) (b := 492) (v2 := none) ok_X15_isValue ok_X15_put cv_X15_put (ct_X15_put_492_P (d := 1) (Nat.le_refl _) hr36) rfl rfl (Or.inl rfl) rfl rfl rfl rfl (by omega) (Nat.le_of_ble_eq_true rfl) (Nat.le_of_ble_eq_true rfl) (Nat.le_of_ble_eq_true rfl) (fun x hx => absurd hx List.not_mem_nil) (q_nmL0 _) (q_nmS0 _) rfl (pos' := 55) (st' := []) (lI' := [(529, r36.1), (537, r36.2)]) (lE' := []) rfl rfl (q_mgw rfl rfl) rfl ?_
          refine q_blk 8 [] (c' := q_kc (t, r, 0, 529, 539, (q_pE ext), (q_pR rx), L) I E 63 [some (.ref 492), some (.int ((I 494) j1))] [.int (13 : Int32), .ref 492] [(492, (q_up (I 492) 9 (((I 492) 9) + (1 : Int32)))), (529, r36.1), (537, r36.2)] []) ok_X15_isValue rfl q_cn ?_
          obtain ⟨r37, hr37, hf⟩ := q_bd hf
          refine q_kV (M2 := m_X15_eat) (As := [.int (13 : Int32)]) (b := 492) (v2 := some (.int (q_bz r37.1))) ok_X15_isValue ok_X15_eat cv_X15_eat (ct_X15_eat_492_P (d := 2) (Nat.le_refl _) hr37) rfl rfl (Or.inl rfl) rfl rfl rfl rfl (by omega) (Nat.le_of_ble_eq_true rfl) (Nat.le_of_ble_eq_true rfl) (Nat.le_of_ble_eq_true rfl) (fun x hx => absurd hx List.not_mem_nil) (q_nmL0 _) (q_nmS0 _) rfl (pos' := 64) (st' := [.int (q_bz r37.1)]) (lI' := [(492, r37.2), (529, r36.1), (537, r36.2)]) (lE' := []) rfl rfl (q_mgw rfl rfl) rfl ?_
          refine q_blf 0 [] (a := q_kc (t, r, 0, 529, 539, (q_pE ext), (q_pR rx), L) I E 71 [some (.ref 492), some (.int ((I 494) j1))] [] [(492, r37.2), (529, r36.1), (537, r36.2)] []) (b := q_kc (t, r, 0, 529, 539, (q_pE ext), (q_pR rx), L) I E 65 [some (.ref 492), some (.int ((I 494) j1))] [] [(492, r37.2), (529, r36.1), (537, r36.2)] []) (P := (q_bz r37.1) = 0) ok_X15_isValue rfl q_cn (fun h38 => ?_) (fun h38 => ?_)
          · have hf := q_ip h38 hf
            refine q_blk 1 [] (c' := q_kc (t, r, 0, 529, 539, (q_pE ext), (q_pR rx), L) I E 72 [some (.ref 492), some (.int ((I 494) j1))] [.int (0 : Int32)] [(492, r37.2), (529, r36.1), (537, r36.2)] []) ok_X15_isValue rfl q_cn ?_
            cases hf
            exact q_kri ok_X15_isValue rfl rfl rfl (Nat.le_of_ble_eq_true rfl) (Nat.le_of_ble_eq_true rfl) ⟨rfl, q_hpe (q_pdw [492, 497, 529, 537, 538] rfl rfl) (q_pdw [] rfl rfl)⟩
          · have hf := q_in h38 hf
            refine q_blk 2 [] (c' := q_kc (t, r, 0, 529, 539, (q_pE ext), (q_pR rx), L) I E 67 [some (.ref 492), some (.int ((I 494) j1))] [.int (5 : Int32), .ref 492] [(492, r37.2), (529, r36.1), (537, r36.2)] []) ok_X15_isValue rfl q_cn ?_
            obtain ⟨r39, hr39, hf⟩ := q_bd hf
            refine q_kV (M2 := m_X15_isName) (As := [.int (5 : Int32)]) (b := 492) (v2 := some (.int (q_bz r39.1))) ok_X15_isValue ok_X15_isName cv_X15_isName (ct_X15_isName_492_P (d := 4) (Nat.le_refl _) hr39) rfl rfl (Or.inl rfl) rfl rfl rfl rfl (by omega) (Nat.le_of_ble_eq_true rfl) (Nat.le_of_ble_eq_true rfl) (Nat.le_of_ble_eq_true rfl) (fun x hx => absurd hx List.not_mem_nil) (q_nmL0 _) (q_nmS0 _) rfl (pos' := 68) (st' := [.int (q_bz r39.1)]) (lI' := [(492, r39.2.1), (497, r39.2.2.1), (529, r39.2.2.2.1), (537, r39.2.2.2.2.1), (538, r39.2.2.2.2.2)]) (lE' := []) rfl rfl (q_mgw rfl rfl) rfl ?_
            refine q_blf 0 [] (a := q_kc (t, r, 0, 529, 539, (q_pE ext), (q_pR rx), L) I E 71 [some (.ref 492), some (.int ((I 494) j1))] [] [(492, r39.2.1), (497, r39.2.2.1), (529, r39.2.2.2.1), (537, r39.2.2.2.2.1), (538, r39.2.2.2.2.2)] []) (b := q_kc (t, r, 0, 529, 539, (q_pE ext), (q_pR rx), L) I E 69 [some (.ref 492), some (.int ((I 494) j1))] [] [(492, r39.2.1), (497, r39.2.2.1), (529, r39.2.2.2.1), (537, r39.2.2.2.2.1), (538, r39.2.2.2.2.2)] []) (P := (q_bz r39.1) = 0) ok_X15_isValue rfl q_cn (fun h40 => ?_) (fun h40 => ?_)
            · have hf := q_ip h40 hf
              refine q_blk 1 [] (c' := q_kc (t, r, 0, 529, 539, (q_pE ext), (q_pR rx), L) I E 72 [some (.ref 492), some (.int ((I 494) j1))] [.int (0 : Int32)] [(492, r39.2.1), (497, r39.2.2.1), (529, r39.2.2.2.1), (537, r39.2.2.2.2.1), (538, r39.2.2.2.2.2)] []) ok_X15_isValue rfl q_cn ?_
              cases hf
              exact q_kri ok_X15_isValue rfl rfl rfl (Nat.le_of_ble_eq_true rfl) (Nat.le_of_ble_eq_true rfl) ⟨rfl, q_hpe (q_pdw [492, 497, 529, 537, 538] rfl rfl) (q_pdw [] rfl rfl)⟩
            · have hf := q_in h40 hf
              refine q_blk 2 [] (c' := q_kc (t, r, 0, 529, 539, (q_pE ext), (q_pR rx), L) I E 72 [some (.ref 492), some (.int ((I 494) j1))] [.int (1 : Int32)] [(492, r39.2.1), (497, r39.2.2.1), (529, r39.2.2.2.1), (537, r39.2.2.2.2.1), (538, r39.2.2.2.2.2)] []) ok_X15_isValue rfl q_cn ?_
              cases hf
              exact q_kri ok_X15_isValue rfl rfl rfl (Nat.le_of_ble_eq_true rfl) (Nat.le_of_ble_eq_true rfl) ⟨rfl, q_hpe (q_pdw [492, 497, 529, 537, 538] rfl rfl) (q_pdw [] rfl rfl)⟩
        · have hf := q_in h35 hf
          refine q_blk 2 [] (c' := q_kc (t, r, 0, 529, 539, (q_pE ext), (q_pR rx), L) I E 50 [some (.ref 492), some (.int ((I 494) j1))] [.int (21 : Int32), .ref 492] [] []) ok_X15_isValue rfl q_cn ?_
          obtain ⟨r41, hr41, hf⟩ := q_bd hf
          refine q_kV (M2 := m_X15_is) (As := [.int (21 : Int32)]) (b := 492) (v2 := some (.int (q_bz r41))) ok_X15_isValue ok_X15_is cv_X15_is (ct_X15_is_492_P (d := 1) (Nat.le_refl _) hr41) rfl rfl (Or.inl rfl) rfl rfl rfl rfl (by omega) (Nat.le_of_ble_eq_true rfl) (Nat.le_of_ble_eq_true rfl) (Nat.le_of_ble_eq_true rfl) (fun x hx => absurd hx List.not_mem_nil) (q_nmL0 _) (q_nmS0 _) rfl (pos' := 51) (st' := [.int (q_bz r41)]) (lI' := []) (lE' := []) rfl rfl rfl rfl ?_
          refine q_blf 0 [] (a := q_kc (t, r, 0, 529, 539, (q_pE ext), (q_pR rx), L) I E 73 [some (.ref 492), some (.int ((I 494) j1))] [] [] []) (b := q_kc (t, r, 0, 529, 539, (q_pE ext), (q_pR rx), L) I E 52 [some (.ref 492), some (.int ((I 494) j1))] [] [] []) (P := (q_bz r41) = 0) ok_X15_isValue rfl q_cn (fun h42 => ?_) (fun h42 => ?_)
          · have hf := q_ip h42 hf
            refine q_blk 2 [] (c' := q_kc (t, r, 0, 529, 539, (q_pE ext), (q_pR rx), L) I E 75 [some (.ref 492), some (.int ((I 494) j1))] [.int (45 : Int32), .ref 492] [] []) ok_X15_isValue rfl q_cn ?_
            obtain ⟨r43, hr43, hf⟩ := q_bd hf
            refine q_kV (M2 := m_X15_isSign) (As := [.int (45 : Int32)]) (b := 492) (v2 := some (.int (q_bz r43))) ok_X15_isValue ok_X15_isSign cv_X15_isSign (ct_X15_isSign_492_P (d := 1) (Nat.le_refl _) hr43) rfl rfl (Or.inl rfl) rfl rfl rfl rfl (by omega) (Nat.le_of_ble_eq_true rfl) (Nat.le_of_ble_eq_true rfl) (Nat.le_of_ble_eq_true rfl) (fun x hx => absurd hx List.not_mem_nil) (q_nmL0 _) (q_nmS0 _) rfl (pos' := 76) (st' := [.int (q_bz r43)]) (lI' := []) (lE' := []) rfl rfl rfl rfl ?_
            refine q_blf 0 [] (a := q_kc (t, r, 0, 529, 539, (q_pE ext), (q_pR rx), L) I E 96 [some (.ref 492), some (.int ((I 494) j1))] [] [] []) (b := q_kc (t, r, 0, 529, 539, (q_pE ext), (q_pR rx), L) I E 77 [some (.ref 492), some (.int ((I 494) j1))] [] [] []) (P := (q_bz r43) = 0) ok_X15_isValue rfl q_cn (fun h44 => ?_) (fun h44 => ?_)
            · have hf := q_ip h44 hf
              refine q_blk 4 [] (c' := q_kc (t, r, 0, 529, 539, (q_pE ext), (q_pR rx), L) I E 100 [some (.ref 492), some (.int ((I 494) j1))] [.int (27 : Int32), .ref 492, .int ((I 494) j1), .ref 492] [] []) ok_X15_isValue rfl q_cn ?_
              obtain ⟨r45, hr45, hf⟩ := q_bd hf
              refine q_kV (M2 := m_X15_eat) (As := [.int (27 : Int32)]) (b := 492) (v2 := some (.int (q_bz r45.1))) ok_X15_isValue ok_X15_eat cv_X15_eat (ct_X15_eat_492_P (d := 2) (Nat.le_refl _) hr45) rfl rfl (Or.inl rfl) rfl rfl rfl rfl (by omega) (Nat.le_of_ble_eq_true rfl) (Nat.le_of_ble_eq_true rfl) (Nat.le_of_ble_eq_true rfl) (fun x hx => absurd hx List.not_mem_nil) (q_nmL0 _) (q_nmS0 _) rfl (pos' := 101) (st' := [.int (q_bz r45.1), .int ((I 494) j1), .ref 492]) (lI' := [(492, r45.2)]) (lE' := []) rfl rfl (q_mgw rfl rfl) rfl ?_
              refine q_blf 0 [] (a := q_kc (t, r, 0, 529, 539, (q_pE ext), (q_pR rx), L) I E 106 [some (.ref 492), some (.int ((I 494) j1))] [.int ((I 494) j1), .ref 492] [(492, r45.2)] []) (b := q_kc (t, r, 0, 529, 539, (q_pE ext), (q_pR rx), L) I E 102 [some (.ref 492), some (.int ((I 494) j1))] [.int ((I 494) j1), .ref 492] [(492, r45.2)] []) (P := ¬ (q_bz r45.1) = 0) ok_X15_isValue rfl q_cn (fun h46 => ?_) (fun h46 => ?_)
              · have hf := q_ip h46 hf
                refine q_blk 2 [] (c' := q_kc (t, r, 0, 529, 539, (q_pE ext), (q_pR rx), L) I E 109 [some (.ref 492), some (.int ((I 494) j1))] [.int (1 : Int32), .int ((I 494) j1), .ref 492] [(492, r45.2)] []) ok_X15_isValue rfl q_cn ?_
                obtain ⟨r47, hr47, hf⟩ := q_bd hf
                refine q_kV (M2 := m_X15_isInside) (As := [.int ((I 494) j1), .int (q_bz true)]) (b := 492) (v2 := some (.int (q_bz r47.1))) ok_X15_isValue ok_X15_isInside cv_X15_isInside (ct_X15_isInside_492_P (d := dR + 4) (Nat.le_refl _) hq_isSum hr47) rfl rfl (Or.inl rfl) rfl rfl rfl rfl (by omega) (Nat.le_of_ble_eq_true rfl) (Nat.le_of_ble_eq_true rfl) (Nat.le_of_ble_eq_true rfl) (fun x hx => absurd hx List.not_mem_nil) (q_nmL0 _) (q_nmS0 _) rfl (pos' := 110) (st' := [.int (q_bz r47.1)]) (lI' := [(492, r47.2.1), (497, r47.2.2.1), (529, r47.2.2.2.1), (537, r47.2.2.2.2.1), (538, r47.2.2.2.2.2)]) (lE' := []) rfl rfl (q_mgw rfl rfl) rfl ?_
                cases hf
                exact q_kri ok_X15_isValue rfl rfl (q_bz_nr _) (Nat.le_of_ble_eq_true rfl) (Nat.le_of_ble_eq_true rfl) ⟨rfl, q_hpe (q_pdw [492, 497, 529, 537, 538] rfl rfl) (q_pdw [] rfl rfl)⟩
              · have hf := q_in h46 hf
                refine q_blk 2 [] (c' := q_kc (t, r, 0, 529, 539, (q_pE ext), (q_pR rx), L) I E 104 [some (.ref 492), some (.int ((I 494) j1))] [.int (28 : Int32), .ref 492, .int ((I 494) j1), .ref 492] [(492, r45.2)] []) ok_X15_isValue rfl q_cn ?_
                obtain ⟨r48, hr48, hf⟩ := q_bd hf
                refine q_kV (M2 := m_X15_eat) (As := [.int (28 : Int32)]) (b := 492) (v2 := some (.int (q_bz r48.1))) ok_X15_isValue ok_X15_eat cv_X15_eat (ct_X15_eat_492_P (d := 2) (Nat.le_refl _) hr48) rfl rfl (Or.inl rfl) rfl rfl rfl rfl (by omega) (Nat.le_of_ble_eq_true rfl) (Nat.le_of_ble_eq_true rfl) (Nat.le_of_ble_eq_true rfl) (fun x hx => absurd hx List.not_mem_nil) (q_nmL0 _) (q_nmS0 _) rfl (pos' := 105) (st' := [.int (q_bz r48.1), .int ((I 494) j1), .ref 492]) (lI' := [(492, r48.2)]) (lE' := []) rfl rfl (q_mgw rfl rfl) rfl ?_
                refine q_blf 0 [] (a := q_kc (t, r, 0, 529, 539, (q_pE ext), (q_pR rx), L) I E 108 [some (.ref 492), some (.int ((I 494) j1))] [.int ((I 494) j1), .ref 492] [(492, r48.2)] []) (b := q_kc (t, r, 0, 529, 539, (q_pE ext), (q_pR rx), L) I E 106 [some (.ref 492), some (.int ((I 494) j1))] [.int ((I 494) j1), .ref 492] [(492, r48.2)] []) (P := (q_bz r48.1) = 0) ok_X15_isValue rfl q_cn (fun h49 => ?_) (fun h49 => ?_)
                · have hf := q_ip h49 hf
                  refine q_blk 1 [] (c' := q_kc (t, r, 0, 529, 539, (q_pE ext), (q_pR rx), L) I E 109 [some (.ref 492), some (.int ((I 494) j1))] [.int (0 : Int32), .int ((I 494) j1), .ref 492] [(492, r48.2)] []) ok_X15_isValue rfl q_cn ?_
                  obtain ⟨r50, hr50, hf⟩ := q_bd hf
                  refine q_kV (M2 := m_X15_isInside) (As := [.int ((I 494) j1), .int (q_bz false)]) (b := 492) (v2 := some (.int (q_bz r50.1))) ok_X15_isValue ok_X15_isInside cv_X15_isInside (ct_X15_isInside_492_P (d := dR + 4) (Nat.le_refl _) hq_isSum hr50) rfl rfl (Or.inl rfl) rfl rfl rfl rfl (by omega) (Nat.le_of_ble_eq_true rfl) (Nat.le_of_ble_eq_true rfl) (Nat.le_of_ble_eq_true rfl) (fun x hx => absurd hx List.not_mem_nil) (q_nmL0 _) (q_nmS0 _) rfl (pos' := 110) (st' := [.int (q_bz r50.1)]) (lI' := [(492, r50.2.1), (497, r50.2.2.1), (529, r50.2.2.2.1), (537, r50.2.2.2.2.1), (538, r50.2.2.2.2.2)]) (lE' := []) rfl rfl (q_mgw rfl rfl) rfl ?_
                  cases hf
                  exact q_kri ok_X15_isValue rfl rfl (q_bz_nr _) (Nat.le_of_ble_eq_true rfl) (Nat.le_of_ble_eq_true rfl) ⟨rfl, q_hpe (q_pdw [492, 497, 529, 537, 538] rfl rfl) (q_pdw [] rfl rfl)⟩
                · have hf := q_in h49 hf
                  refine q_blk 2 [] (c' := q_kc (t, r, 0, 529, 539, (q_pE ext), (q_pR rx), L) I E 109 [some (.ref 492), some (.int ((I 494) j1))] [.int (1 : Int32), .int ((I 494) j1), .ref 492] [(492, r48.2)] []) ok_X15_isValue rfl q_cn ?_
                  obtain ⟨r51, hr51, hf⟩ := q_bd hf
                  refine q_kV (M2 := m_X15_isInside) (As := [.int ((I 494) j1), .int (q_bz true)]) (b := 492) (v2 := some (.int (q_bz r51.1))) ok_X15_isValue ok_X15_isInside cv_X15_isInside (ct_X15_isInside_492_P (d := dR + 4) (Nat.le_refl _) hq_isSum hr51) rfl rfl (Or.inl rfl) rfl rfl rfl rfl (by omega) (Nat.le_of_ble_eq_true rfl) (Nat.le_of_ble_eq_true rfl) (Nat.le_of_ble_eq_true rfl) (fun x hx => absurd hx List.not_mem_nil) (q_nmL0 _) (q_nmS0 _) rfl (pos' := 110) (st' := [.int (q_bz r51.1)]) (lI' := [(492, r51.2.1), (497, r51.2.2.1), (529, r51.2.2.2.1), (537, r51.2.2.2.2.1), (538, r51.2.2.2.2.2)]) (lE' := []) rfl rfl (q_mgw rfl rfl) rfl ?_
                  cases hf
                  exact q_kri ok_X15_isValue rfl rfl (q_bz_nr _) (Nat.le_of_ble_eq_true rfl) (Nat.le_of_ble_eq_true rfl) ⟨rfl, q_hpe (q_pdw [492, 497, 529, 537, 538] rfl rfl) (q_pdw [] rfl rfl)⟩
            · have hf := q_in h44 hf
              refine q_blk 1 [] (c' := q_kc (t, r, 0, 529, 539, (q_pE ext), (q_pR rx), L) I E 78 [some (.ref 492), some (.int ((I 494) j1))] [.ref 492] [] []) ok_X15_isValue rfl q_cn ?_
              obtain ⟨r52, hr52, hf⟩ := q_bd hf
              refine q_kV (M2 := m_X15_isDeeper) (As := []) (b := 492) (v2 := some (.int (q_bz r52.1))) ok_X15_isValue ok_X15_isDeeper cv_X15_isDeeper (ct_X15_isDeeper_492_P (d := 1) (Nat.le_refl _) hr52) rfl rfl (Or.inl rfl) rfl rfl rfl rfl (by omega) (Nat.le_of_ble_eq_true rfl) (Nat.le_of_ble_eq_true rfl) (Nat.le_of_ble_eq_true rfl) (fun x hx => absurd hx List.not_mem_nil) (q_nmL0 _) (q_nmS0 _) rfl (pos' := 79) (st' := [.int (q_bz r52.1)]) (lI' := [(492, r52.2)]) (lE' := []) rfl rfl (q_mgw rfl rfl) rfl ?_
              refine q_blf 0 [] (a := q_kc (t, r, 0, 529, 539, (q_pE ext), (q_pR rx), L) I E 83 [some (.ref 492), some (.int ((I 494) j1))] [] [(492, r52.2)] []) (b := q_kc (t, r, 0, 529, 539, (q_pE ext), (q_pR rx), L) I E 80 [some (.ref 492), some (.int ((I 494) j1))] [] [(492, r52.2)] []) (P := (q_bz r52.1) = 0) ok_X15_isValue rfl q_cn (fun h53 => ?_) (fun h53 => ?_)
              · have hf := q_ip h53 hf
                refine q_blk 1 [] (c' := q_kc (t, r, 0, 529, 539, (q_pE ext), (q_pR rx), L) I E 84 [some (.ref 492), some (.int ((I 494) j1))] [.int (0 : Int32)] [(492, r52.2)] []) ok_X15_isValue rfl q_cn ?_
                cases hf
                exact q_kri ok_X15_isValue rfl rfl rfl (Nat.le_of_ble_eq_true rfl) (Nat.le_of_ble_eq_true rfl) ⟨rfl, q_hpe (q_pdw [492, 497, 529, 537, 538] rfl rfl) (q_pdw [] rfl rfl)⟩
              · have hf := q_in h53 hf
                refine q_blk 1 [] (c' := q_kc (t, r, 0, 529, 539, (q_pE ext), (q_pR rx), L) I E 81 [some (.ref 492), some (.int ((I 494) j1))] [.ref 492] [(492, r52.2)] []) ok_X15_isValue rfl q_cn ?_
                obtain ⟨r54, hr54, hf⟩ := q_bd hf
                refine q_kV (M2 := m_X15_isValue) (As := []) (b := 492) (v2 := some (.int (q_bz r54.1))) ok_X15_isValue ok_X15_isValue cv_X15_isValue (hq_isValue hr54) rfl rfl (Or.inl rfl) rfl rfl rfl rfl (by omega) (Nat.le_of_ble_eq_true rfl) (Nat.le_of_ble_eq_true rfl) (Nat.le_of_ble_eq_true rfl) (fun x hx => absurd hx List.not_mem_nil) (q_nmL0 _) (q_nmS0 _) rfl (pos' := 82) (st' := [.int (q_bz r54.1)]) (lI' := [(492, r54.2.1), (497, r54.2.2.1), (529, r54.2.2.2.1), (537, r54.2.2.2.2.1), (538, r54.2.2.2.2.2)]) (lE' := []) rfl rfl (q_mgw rfl rfl) rfl ?_
                refine q_blf 0 [] (a := q_kc (t, r, 0, 529, 539, (q_pE ext), (q_pR rx), L) I E 85 [some (.ref 492), some (.int ((I 494) j1))] [] [(492, r54.2.1), (497, r54.2.2.1), (529, r54.2.2.2.1), (537, r54.2.2.2.2.1), (538, r54.2.2.2.2.2)] []) (b := q_kc (t, r, 0, 529, 539, (q_pE ext), (q_pR rx), L) I E 83 [some (.ref 492), some (.int ((I 494) j1))] [] [(492, r54.2.1), (497, r54.2.2.1), (529, r54.2.2.2.1), (537, r54.2.2.2.2.1), (538, r54.2.2.2.2.2)] []) (P := ¬ (q_bz r54.1) = 0) ok_X15_isValue rfl q_cn (fun h55 => ?_) (fun h55 => ?_)
                · have hf := q_ip h55 hf
                  refine q_blk 8 [] (c' := q_kc (t, r, 0, 529, 539, (q_pE ext), (q_pR rx), L) I E 93 [some (.ref 492), some (.int ((I 494) j1))] [.int (33 : Int32), .ref 492] [(492, (q_up r54.2.1 10 ((r54.2.1 10) - (1 : Int32)))), (497, r54.2.2.1), (529, r54.2.2.2.1), (537, r54.2.2.2.2.1), (538, r54.2.2.2.2.2)] []) ok_X15_isValue rfl q_cn ?_
                  obtain ⟨r56, hr56, hf⟩ := q_bd hf
                  refine q_kV (M2 := m_X15_put) (As := [.int (33 : Int32)]) (b := 492) (v2 := none) ok_X15_isValue ok_X15_put cv_X15_put (ct_X15_put_492_P (d := 1) (Nat.le_refl _) hr56) rfl rfl (Or.inl rfl) rfl rfl rfl rfl (by omega) (Nat.le_of_ble_eq_true rfl) (Nat.le_of_ble_eq_true rfl) (Nat.le_of_ble_eq_true rfl) (fun x hx => absurd hx List.not_mem_nil) (q_nmL0 _) (q_nmS0 _) rfl (pos' := 94) (st' := []) (lI' := [(492, (q_up r54.2.1 10 ((r54.2.1 10) - (1 : Int32)))), (497, r54.2.2.1), (529, r56.1), (537, r56.2), (538, r54.2.2.2.2.2)]) (lE' := []) rfl rfl (q_mgw rfl rfl) rfl ?_
                  refine q_blk 1 [] (c' := q_kc (t, r, 0, 529, 539, (q_pE ext), (q_pR rx), L) I E 95 [some (.ref 492), some (.int ((I 494) j1))] [.int (1 : Int32)] [(492, (q_up r54.2.1 10 ((r54.2.1 10) - (1 : Int32)))), (497, r54.2.2.1), (529, r56.1), (537, r56.2), (538, r54.2.2.2.2.2)] []) ok_X15_isValue rfl q_cn ?_
                  cases hf
                  exact q_kri ok_X15_isValue rfl rfl rfl (Nat.le_of_ble_eq_true rfl) (Nat.le_of_ble_eq_true rfl) ⟨rfl, q_hpe (q_pdw [492, 497, 529, 537, 538] rfl rfl) (q_pdw [] rfl rfl)⟩
                · have hf := q_in h55 hf
                  refine q_blk 1 [] (c' := q_kc (t, r, 0, 529, 539, (q_pE ext), (q_pR rx), L) I E 84 [some (.ref 492), some (.int ((I 494) j1))] [.int (0 : Int32)] [(492, r54.2.1), (497, r54.2.2.1), (529, r54.2.2.2.1), (537, r54.2.2.2.2.1), (538, r54.2.2.2.2.2)] []) ok_X15_isValue rfl q_cn ?_
                  cases hf
                  exact q_kri ok_X15_isValue rfl rfl rfl (Nat.le_of_ble_eq_true rfl) (Nat.le_of_ble_eq_true rfl) ⟨rfl, q_hpe (q_pdw [492, 497, 529, 537, 538] rfl rfl) (q_pdw [] rfl rfl)⟩
          · have hf := q_in h42 hf
            refine q_blk 2 [] (c' := q_kc (t, r, 0, 529, 539, (q_pE ext), (q_pR rx), L) I E 54 [some (.ref 492), some (.int ((I 494) j1))] [.int ((I 494) j1), .ref 492] [] []) ok_X15_isValue rfl q_cn ?_
            obtain ⟨r57, hr57, hf⟩ := q_bd hf
            refine q_kV (M2 := m_X15_put) (As := [.int ((I 494) j1)]) (b := 492) (v2 := none) ok_X15_isValue ok_X15_put cv_X15_put (ct_X15_put_492_P (d := 1) (Nat.le_refl _) hr57) rfl rfl (Or.inl rfl) rfl rfl rfl rfl (by omega) (Nat.le_of_ble_eq_true rfl) (Nat.le_of_ble_eq_true rfl) (Nat.le_of_ble_eq_true rfl) (fun x hx => absurd hx List.not_mem_nil) (q_nmL0 _) (q_nmS0 _) rfl (pos' := 55) (st' := []) (lI' := [(529, r57.1), (537, r57.2)]) (lE' := []) rfl rfl (q_mgw rfl rfl) rfl ?_
            refine q_blk 8 [] (c' := q_kc (t, r, 0, 529, 539, (q_pE ext), (q_pR rx), L) I E 63 [some (.ref 492), some (.int ((I 494) j1))] [.int (13 : Int32), .ref 492] [(492, (q_up (I 492) 9 (((I 492) 9) + (1 : Int32)))), (529, r57.1), (537, r57.2)] []) ok_X15_isValue rfl q_cn ?_
            obtain ⟨r58, hr58, hf⟩ := q_bd hf
            refine q_kV (M2 := m_X15_eat) (As := [.int (13 : Int32)]) (b := 492) (v2 := some (.int (q_bz r58.1))) ok_X15_isValue ok_X15_eat cv_X15_eat (ct_X15_eat_492_P (d := 2) (Nat.le_refl _) hr58) rfl rfl (Or.inl rfl) rfl rfl rfl rfl (by omega) (Nat.le_of_ble_eq_true rfl) (Nat.le_of_ble_eq_true rfl) (Nat.le_of_ble_eq_true rfl) (fun x hx => absurd hx List.not_mem_nil) (q_nmL0 _) (q_nmS0 _) rfl (pos' := 64) (st' := [.int (q_bz r58.1)]) (lI' := [(492, r58.2), (529, r57.1), (537, r57.2)]) (lE' := []) rfl rfl (q_mgw rfl rfl) rfl ?_
            refine q_blf 0 [] (a := q_kc (t, r, 0, 529, 539, (q_pE ext), (q_pR rx), L) I E 71 [some (.ref 492), some (.int ((I 494) j1))] [] [(492, r58.2), (529, r57.1), (537, r57.2)] []) (b := q_kc (t, r, 0, 529, 539, (q_pE ext), (q_pR rx), L) I E 65 [some (.ref 492), some (.int ((I 494) j1))] [] [(492, r58.2), (529, r57.1), (537, r57.2)] []) (P := (q_bz r58.1) = 0) ok_X15_isValue rfl q_cn (fun h59 => ?_) (fun h59 => ?_)
            · have hf := q_ip h59 hf
              refine q_blk 1 [] (c' := q_kc (t, r, 0, 529, 539, (q_pE ext), (q_pR rx), L) I E 72 [some (.ref 492), some (.int ((I 494) j1))] [.int (0 : Int32)] [(492, r58.2), (529, r57.1), (537, r57.2)] []) ok_X15_isValue rfl q_cn ?_
              cases hf
              exact q_kri ok_X15_isValue rfl rfl rfl (Nat.le_of_ble_eq_true rfl) (Nat.le_of_ble_eq_true rfl) ⟨rfl, q_hpe (q_pdw [492, 497, 529, 537, 538] rfl rfl) (q_pdw [] rfl rfl)⟩
            · have hf := q_in h59 hf
              refine q_blk 2 [] (c' := q_kc (t, r, 0, 529, 539, (q_pE ext), (q_pR rx), L) I E 67 [some (.ref 492), some (.int ((I 494) j1))] [.int (5 : Int32), .ref 492] [(492, r58.2), (529, r57.1), (537, r57.2)] []) ok_X15_isValue rfl q_cn ?_
              obtain ⟨r60, hr60, hf⟩ := q_bd hf
              refine q_kV (M2 := m_X15_isName) (As := [.int (5 : Int32)]) (b := 492) (v2 := some (.int (q_bz r60.1))) ok_X15_isValue ok_X15_isName cv_X15_isName (ct_X15_isName_492_P (d := 4) (Nat.le_refl _) hr60) rfl rfl (Or.inl rfl) rfl rfl rfl rfl (by omega) (Nat.le_of_ble_eq_true rfl) (Nat.le_of_ble_eq_true rfl) (Nat.le_of_ble_eq_true rfl) (fun x hx => absurd hx List.not_mem_nil) (q_nmL0 _) (q_nmS0 _) rfl (pos' := 68) (st' := [.int (q_bz r60.1)]) (lI' := [(492, r60.2.1), (497, r60.2.2.1), (529, r60.2.2.2.1), (537, r60.2.2.2.2.1), (538, r60.2.2.2.2.2)]) (lE' := []) rfl rfl (q_mgw rfl rfl) rfl ?_
              refine q_blf 0 [] (a := q_kc (t, r, 0, 529, 539, (q_pE ext), (q_pR rx), L) I E 71 [some (.ref 492), some (.int ((I 494) j1))] [] [(492, r60.2.1), (497, r60.2.2.1), (529, r60.2.2.2.1), (537, r60.2.2.2.2.1), (538, r60.2.2.2.2.2)] []) (b := q_kc (t, r, 0, 529, 539, (q_pE ext), (q_pR rx), L) I E 69 [some (.ref 492), some (.int ((I 494) j1))] [] [(492, r60.2.1), (497, r60.2.2.1), (529, r60.2.2.2.1), (537, r60.2.2.2.2.1), (538, r60.2.2.2.2.2)] []) (P := (q_bz r60.1) = 0) ok_X15_isValue rfl q_cn (fun h61 => ?_) (fun h61 => ?_)
              · have hf := q_ip h61 hf
                refine q_blk 1 [] (c' := q_kc (t, r, 0, 529, 539, (q_pE ext), (q_pR rx), L) I E 72 [some (.ref 492), some (.int ((I 494) j1))] [.int (0 : Int32)] [(492, r60.2.1), (497, r60.2.2.1), (529, r60.2.2.2.1), (537, r60.2.2.2.2.1), (538, r60.2.2.2.2.2)] []) ok_X15_isValue rfl q_cn ?_
                cases hf
                exact q_kri ok_X15_isValue rfl rfl rfl (Nat.le_of_ble_eq_true rfl) (Nat.le_of_ble_eq_true rfl) ⟨rfl, q_hpe (q_pdw [492, 497, 529, 537, 538] rfl rfl) (q_pdw [] rfl rfl)⟩
              · have hf := q_in h61 hf
                refine q_blk 2 [] (c' := q_kc (t, r, 0, 529, 539, (q_pE ext), (q_pR rx), L) I E 72 [some (.ref 492), some (.int ((I 494) j1))] [.int (1 : Int32)] [(492, r60.2.1), (497, r60.2.2.1), (529, r60.2.2.2.1), (537, r60.2.2.2.2.1), (538, r60.2.2.2.2.2)] []) ok_X15_isValue rfl q_cn ?_
                cases hf
                exact q_kri ok_X15_isValue rfl rfl rfl (Nat.le_of_ble_eq_true rfl) (Nat.le_of_ble_eq_true rfl) ⟨rfl, q_hpe (q_pdw [492, 497, 529, 537, 538] rfl rfl) (q_pdw [] rfl rfl)⟩
      · have hf := q_in h33 hf
        refine q_blk 2 [] (c' := q_kc (t, r, 0, 529, 539, (q_pE ext), (q_pR rx), L) I E 35 [some (.ref 492), some (.int ((I 494) j1))] [.int ((I 494) j1), .ref 492] [] []) ok_X15_isValue rfl q_cn ?_
        obtain ⟨r62, hr62, hf⟩ := q_bd hf
        refine q_kV (M2 := m_X15_put) (As := [.int ((I 494) j1)]) (b := 492) (v2 := none) ok_X15_isValue ok_X15_put cv_X15_put (ct_X15_put_492_P (d := 1) (Nat.le_refl _) hr62) rfl rfl (Or.inl rfl) rfl rfl rfl rfl (by omega) (Nat.le_of_ble_eq_true rfl) (Nat.le_of_ble_eq_true rfl) (Nat.le_of_ble_eq_true rfl) (fun x hx => absurd hx List.not_mem_nil) (q_nmL0 _) (q_nmS0 _) rfl (pos' := 36) (st' := []) (lI' := [(529, r62.1), (537, r62.2)]) (lE' := []) rfl rfl (q_mgw rfl rfl) rfl ?_
        refine q_blk 7 [] (c' := q_kc (t, r, 0, 529, 539, (q_pE ext), (q_pR rx), L) I E 43 [some (.ref 492), some (.int ((I 494) j1))] [.int (1 : Int32)] [(492, (q_up (I 492) 9 (((I 492) 9) + (1 : Int32)))), (529, r62.1), (537, r62.2)] []) ok_X15_isValue rfl q_cn ?_
        cases hf
        exact q_kri ok_X15_isValue rfl rfl rfl (Nat.le_of_ble_eq_true rfl) (Nat.le_of_ble_eq_true rfl) ⟨rfl, q_hpe (q_pdw [492, 497, 529, 537, 538] rfl rfl) (q_pdw [] rfl rfl)⟩
  · have hf := q_in h3 hf
    refine q_blk 2 [] (c' := q_kc (t, r, 0, 529, 539, (q_pE ext), (q_pR rx), L) I E 12 [some (.ref 492), some (.int ((I 494) j1))] [.int (32 : Int32), .ref 492] [] []) ok_X15_isValue rfl q_cn ?_
    obtain ⟨r63, hr63, hf⟩ := q_bd hf
    refine q_kV (M2 := m_X15_put) (As := [.int (32 : Int32)]) (b := 492) (v2 := none) ok_X15_isValue ok_X15_put cv_X15_put (ct_X15_put_492_P (d := 1) (Nat.le_refl _) hr63) rfl rfl (Or.inl rfl) rfl rfl rfl rfl (by omega) (Nat.le_of_ble_eq_true rfl) (Nat.le_of_ble_eq_true rfl) (Nat.le_of_ble_eq_true rfl) (fun x hx => absurd hx List.not_mem_nil) (q_nmL0 _) (q_nmS0 _) rfl (pos' := 13) (st' := []) (lI' := [(529, r63.1), (537, r63.2)]) (lE' := []) rfl rfl (q_mgw rfl rfl) rfl ?_
    refine q_blk 4 [] (c' := q_kc (t, r, 0, 529, 539, (q_pE ext), (q_pR rx), L) I E 17 [some (.ref 492), some (.int ((I 494) j1))] [.int ((I 492) 9), .ref 492, .ref 492] [(529, r63.1), (537, r63.2)] []) ok_X15_isValue rfl q_cn ?_
    obtain ⟨r64, hr64, hf⟩ := q_bd hf
    refine q_kV (M2 := m_X15_numberAt) (As := [.int ((I 492) 9)]) (b := 492) (v2 := some (.int r64)) ok_X15_isValue ok_X15_numberAt cv_X15_numberAt (ct_X15_numberAt_492_P (d := 1) (Nat.le_refl _) hr64) rfl rfl (Or.inl rfl) rfl rfl rfl rfl (by omega) (Nat.le_of_ble_eq_true rfl) (Nat.le_of_ble_eq_true rfl) (Nat.le_of_ble_eq_true rfl) (fun x hx => absurd hx List.not_mem_nil) (q_nmL0 _) (q_nmS0 _) rfl (pos' := 18) (st' := [.int r64, .ref 492]) (lI' := [(529, r63.1), (537, r63.2)]) (lE' := []) rfl rfl rfl rfl ?_
    obtain ⟨r65, hr65, hf⟩ := q_bd hf
    refine q_kV (M2 := m_X15_put) (As := [.int r64]) (b := 492) (v2 := none) ok_X15_isValue ok_X15_put cv_X15_put (ct_X15_put_492_P (d := 1) (Nat.le_refl _) hr65) rfl rfl (Or.inl rfl) rfl rfl rfl rfl (by omega) (Nat.le_of_ble_eq_true rfl) (Nat.le_of_ble_eq_true rfl) (Nat.le_of_ble_eq_true rfl) (fun x hx => absurd hx List.not_mem_nil) (q_nmL0 _) (q_nmS0 _) rfl (pos' := 19) (st' := []) (lI' := [(529, r65.1), (537, r65.2)]) (lE' := []) rfl rfl (q_mgw rfl rfl) rfl ?_
    refine q_blk 7 [] (c' := q_kc (t, r, 0, 529, 539, (q_pE ext), (q_pR rx), L) I E 26 [some (.ref 492), some (.int ((I 494) j1))] [.int (1 : Int32)] [(492, (q_up (I 492) 9 (((I 492) 9) + (1 : Int32)))), (529, r65.1), (537, r65.2)] []) ok_X15_isValue rfl q_cn ?_
    cases hf
    exact q_kri ok_X15_isValue rfl rfl rfl (Nat.le_of_ble_eq_true rfl) (Nat.le_of_ble_eq_true rfl) ⟨rfl, q_hpe (q_pdw [492, 497, 529, 537, 538] rfl rfl) (q_pdw [] rfl rfl)⟩
