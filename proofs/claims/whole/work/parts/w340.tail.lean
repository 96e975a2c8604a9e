set_option maxHeartbeats 4000000 in
theorem lp_X15_read_L31_492_P {g : q_G} {d mc ms : Nat} {h0 : q_H} {Q : (Option Value ⊕ String) → q_H → Prop} {k n : Nat} {t : Nat} {r : Nat} {ext : Nat → q_Sh} {rx : Nat → Nat → Option Nat} {L : Nat → Nat → Int64} (hd : 404 ≤ d) (hk : k ≤ mc) (hn : n ≤ ms)  {v1 : Int32} : ∀ (fu : Nat) {I : Nat → Nat → Int32} {E : Nat → Nat → Option Nat} {r0 : Nat × Int32 × (Nat → Int32) × (Nat → Int32) × (Nat → Int32) × (Nat → Int32) × (Nat → Int32) × (Nat → Int32) × (Nat → Int32)} (hf : f_X15_read_L31 (I 493) (I 494) (I 495) (I 496) (I 497) v1 fu (I 492) (I 498) (I 529) (I 530) (I 531) (I 532) (I 533) = some r0) (hK0 : r0.1 = 0 → q_J g m_X15_read d mc ms h0 [] Q k n (q_kc (t, r, 0, 529, 539, (q_pE ext), (q_pR rx), L) I E 59 [some (.ref 492), none, none] [] [(492, r0.2.2.1), (498, r0.2.2.2.1), (529, r0.2.2.2.2.1), (530, r0.2.2.2.2.2.1), (531, r0.2.2.2.2.2.2.1), (532, r0.2.2.2.2.2.2.2.1), (533, r0.2.2.2.2.2.2.2.2)] [])) (hK1 : r0.1 = 1 → q_J g m_X15_read d mc ms h0 [] Q k n (q_kc (t, r, 0, 529, 539, (q_pE ext), (q_pR rx), L) I E 43 [some (.ref 492), none, some (.int r0.2.1)] [] [(492, r0.2.2.1), (498, r0.2.2.2.1), (529, r0.2.2.2.2.1), (530, r0.2.2.2.2.2.1), (531, r0.2.2.2.2.2.2.1), (532, r0.2.2.2.2.2.2.2.1), (533, r0.2.2.2.2.2.2.2.2)] [])), q_J g m_X15_read d mc ms h0 [] Q k n (31, [some (.ref 492), some (.int v1), none], [], q_hp (t, r, 0, 529, 539, (q_pE ext), (q_pR rx), L) I E) := by
  intro fu
  induction fu with
  | zero =>
    intro I E r0 hf hK0 hK1
    rw [f_X15_read_L31] at hf
    cases hf
  | succ fu ih =>
    intro I E r0 hf hK0 hK1
    rw [f_X15_read_L31] at hf
    change q_J g m_X15_read d mc ms h0 [] Q k n (q_kc (t, r, 0, 529, 539, (q_pE ext), (q_pR rx), L) I E 31 [some (.ref 492), some (.int v1), none] [] [] [])
    refine q_blf 3 [] (a := q_kc (t, r, 0, 529, 539, (q_pE ext), (q_pR rx), L) I E 59 [some (.ref 492), some (.int v1), none] [] [] []) (b := q_kc (t, r, 0, 529, 539, (q_pE ext), (q_pR rx), L) I E 35 [some (.ref 492), some (.int v1), none] [] [] []) (P := v1 ≤ ((I 492) 9)) ok_X15_read rfl q_cn (fun h1 => ?_) (fun h1 => ?_)
    · have hf := q_ip h1 hf
      refine q_less (ls' := [some (.ref 492), none, none]) (q_sb2 (q_sb1 (q_sb1 q_sb0))) ?_
      cases hf
      exact q_Jpad (q_pdw [492, 498, 529, 530, 531, 532, 533] rfl rfl) (q_pdw [] rfl rfl) (hK0 rfl)
    · have hf := q_in h1 hf
      refine q_blk 3 [] (c' := q_kc (t, r, 0, 529, 539, (q_pE ext), (q_pR rx), L) I E 38 [some (.ref 492), some (.int v1), none] [.int ((I 492) 9), .ref 492] [] []) ok_X15_read rfl q_cn ?_
      obtain ⟨r2, hr2, hf⟩ := q_bd hf
      refine q_kV (M2 := m_X15_errorOf) (As := [.int ((I 492) 9)]) (b := 492) (v2 := some (.int r2.1)) ok_X15_read ok_X15_errorOf cv_X15_errorOf (ct_X15_errorOf_492_P (d := 5) (Nat.le_refl _) hr2) rfl rfl (Or.inl rfl) rfl rfl rfl rfl (Nat.le_trans (Nat.le_of_ble_eq_true rfl) hd) hk hn (Nat.le_of_ble_eq_true rfl) (fun x hx => absurd hx List.not_mem_nil) (q_nmL0 _) (q_nmS0 _) rfl (pos' := 39) (st' := [.int r2.1]) (lI' := [(498, r2.2.1), (529, r2.2.2.1), (530, r2.2.2.2.1), (531, r2.2.2.2.2.1), (532, r2.2.2.2.2.2.1), (533, r2.2.2.2.2.2.2)]) (lE' := []) rfl rfl (q_mgw rfl rfl) rfl ?_
      refine q_blf 2 [] (a := q_kc (t, r, 0, 529, 539, (q_pE ext), (q_pR rx), L) I E 43 [some (.ref 492), some (.int v1), some (.int r2.1)] [] [(498, r2.2.1), (529, r2.2.2.1), (530, r2.2.2.2.1), (531, r2.2.2.2.2.1), (532, r2.2.2.2.2.2.1), (533, r2.2.2.2.2.2.2)] []) (b := q_kc (t, r, 0, 529, 539, (q_pE ext), (q_pR rx), L) I E 42 [some (.ref 492), some (.int v1), some (.int r2.1)] [] [(498, r2.2.1), (529, r2.2.2.1), (530, r2.2.2.2.1), (531, r2.2.2.2.2.1), (532, r2.2.2.2.2.2.1), (533, r2.2.2.2.2.2.2)] []) (P := ¬ r2.1 = 0) ok_X15_read rfl q_cn (fun h3 => ?_) (fun h3 => ?_)
      · have hf := q_ip h3 hf
        refine q_less (ls' := [some (.ref 492), none, some (.int r2.1)]) (q_sb2 (q_sb1 (q_sb2 q_sb0))) ?_
        cases hf
        exact q_Jpad (q_pdw [492, 498, 529, 530, 531, 532, 533] rfl rfl) (q_pdw [] rfl rfl) (hK1 rfl)
      · have hf := q_in h3 hf
        refine q_blk 8 [] (c' := q_kc (t, r, 0, 529, 539, (q_pE ext), (q_pR rx), L) I E 31 [some (.ref 492), some (.int v1), some (.int r2.1)] [] [(492, (q_up (I 492) 9 (((I 492) 9) + (1 : Int32)))), (498, r2.2.1), (529, r2.2.2.1), (530, r2.2.2.2.1), (531, r2.2.2.2.2.1), (532, r2.2.2.2.2.2.1), (533, r2.2.2.2.2.2.2)] []) ok_X15_read rfl q_cn ?_
        refine q_less (ls' := [some (.ref 492), some (.int v1), none]) (q_sb2 (q_sb2 (q_sb1 q_sb0))) ?_
        exact ih (I := q_ws I [(492, (q_up (I 492) 9 (((I 492) 9) + (1 : Int32)))), (498, r2.2.1), (529, r2.2.2.1), (530, r2.2.2.2.1), (531, r2.2.2.2.2.1), (532, r2.2.2.2.2.2.1), (533, r2.2.2.2.2.2.2)]) (E := q_ws E []) hf (fun hz => q_Jmrg (q_mgw rfl rfl) (q_mgw rfl rfl) (hK0 hz)) (fun hz => q_Jmrg (q_mgw rfl rfl) (q_mgw rfl rfl) (hK1 hz))
set_option maxHeartbeats 4000000 in
theorem lp_X15_read_L61_492_P {g : q_G} {d mc ms : Nat} {h0 : q_H} {Q : (Option Value ⊕ String) → q_H → Prop} {k n : Nat} {t : Nat} {r : Nat} {ext : Nat → q_Sh} {rx : Nat → Nat → Option Nat} {L : Nat → Nat → Int64} (hd : 404 ≤ d) (hk : k ≤ mc) (hn : n ≤ ms)  : ∀ (fu : Nat) {I : Nat → Nat → Int32} {E : Nat → Nat → Option Nat} {v2 : Int32} {r0 : (Nat → Int32)} (hf : f_X15_read_L61 (I 498) (I 529) (I 538) fu (I 537) v2 = some r0) (hK0 : q_J g m_X15_read d mc ms h0 [] Q k n (q_kc (t, r, 0, 529, 539, (q_pE ext), (q_pR rx), L) I E 89 [none, none, none] [] [(537, r0)] [])), q_J g m_X15_read d mc ms h0 [] Q k n (61, [some (.ref 492), none, some (.int v2)], [], q_hp (t, r, 0, 529, 539, (q_pE ext), (q_pR rx), L) I E) := by
  intro fu
  induction fu with
  | zero =>
    intro I E v2 r0 hf hK0
    rw [f_X15_read_L61] at hf
    cases hf
  | succ fu ih =>
    intro I E v2 r0 hf hK0
    rw [f_X15_read_L61] at hf
    change q_J g m_X15_read d mc ms h0 [] Q k n (q_kc (t, r, 0, 529, 539, (q_pE ext), (q_pR rx), L) I E 61 [some (.ref 492), none, some (.int v2)] [] [] [])
    refine q_blf 4 [] (a := q_kc (t, r, 0, 529, 539, (q_pE ext), (q_pR rx), L) I E 89 [some (.ref 492), none, some (.int v2)] [] [] []) (b := q_kc (t, r, 0, 529, 539, (q_pE ext), (q_pR rx), L) I E 66 [some (.ref 492), none, some (.int v2)] [] [] []) (P := ((I 529) 16) ≤ v2) ok_X15_read rfl q_cn (fun h4 => ?_) (fun h4 => ?_)
    · have hf := q_ip h4 hf
      refine q_less (ls' := [none, none, none]) (q_sb1 (q_sb1 (q_sb1 q_sb0))) ?_
      cases hf
      exact q_Jpad (q_pdw [537] rfl rfl) (q_pdw [] rfl rfl) hK0
    · have hf := q_in h4 hf
      obtain ⟨j5, hj5, hf⟩ := q_bd hf
      obtain ⟨j6, hj6, hf⟩ := q_bd hf
      obtain ⟨j7, hj7, hf⟩ := q_bd hf
      obtain ⟨j8, hj8, hf⟩ := q_bd hf
      obtain ⟨j9, hj9, hf⟩ := q_bd hf
      refine q_blk 23 [j5, j6, j7, j8, j9] (c' := q_kc (t, r, 0, 529, 539, (q_pE ext), (q_pR rx), L) I E 61 [some (.ref 492), none, some (.int (v2 + 1))] [] [(537, (q_up (I 537) j9 ((I 498) j8)))] []) ok_X15_read rfl (q_cc hj9 (q_cc hj8 (q_cc hj7 (q_cc hj6 (q_cc hj5 q_cn))))) ?_
      exact ih (I := q_ws I [(537, (q_up (I 537) j9 ((I 498) j8)))]) (E := q_ws E []) hf (q_Jmrg (q_mgw rfl rfl) (q_mgw rfl rfl) hK0)
set_option maxHeartbeats 4000000 in
theorem tl_X15_read_492_P {g : q_G} {t : Nat} {r : Nat} {ext : Nat → q_Sh} {rx : Nat → Nat → Option Nat} {L : Nat → Nat → Int64} {d mc ms k n : Nat} {h0 : q_H} {Q : (Option Value ⊕ String) → q_H → Prop} (hd : 404 ≤ d) (hk : k ≤ mc) (hn : n ≤ ms) {I : Nat → Nat → Int32} {E : Nat → Nat → Option Nat} {r0 : Int32 × (Nat → Int32) × (Nat → Int32) × (Nat → Int32) × (Nat → Int32) × (Nat → Int32) × (Nat → Int32) × (Nat → Int32) × (Nat → Int32) × (Nat → Int32) × (Nat → Int32) × (Nat → Int32) × (Nat → Int32) × (Nat → Int32) × (Nat → Int32) × (Nat → Int32) × (Nat → Int32)} (hf : f_X15_read (I 492) (I 493) (I 494) (I 495) (I 496) (I 497) (I 498) (I 529) (I 530) (I 531) (I 532) (I 533) (I 534) (I 535) (I 536) (I 537) (I 538) = some r0) (hQ : ∀ o h2, o = .inl (some (.int r0.1)) → h2 = q_hp (t, r, 0, 529, 539, (q_pE ext), (q_pR rx), L) (q_ws I [(492, r0.2.1), (494, r0.2.2.1), (495, r0.2.2.2.1), (496, r0.2.2.2.2.1), (497, r0.2.2.2.2.2.1), (498, r0.2.2.2.2.2.2.1), (529, r0.2.2.2.2.2.2.2.1), (530, r0.2.2.2.2.2.2.2.2.1), (531, r0.2.2.2.2.2.2.2.2.2.1), (532, r0.2.2.2.2.2.2.2.2.2.2.1), (533, r0.2.2.2.2.2.2.2.2.2.2.2.1), (534, r0.2.2.2.2.2.2.2.2.2.2.2.2.1), (535, r0.2.2.2.2.2.2.2.2.2.2.2.2.2.1), (536, r0.2.2.2.2.2.2.2.2.2.2.2.2.2.2.1), (537, r0.2.2.2.2.2.2.2.2.2.2.2.2.2.2.2.1), (538, r0.2.2.2.2.2.2.2.2.2.2.2.2.2.2.2.2)]) (q_ws E []) → Q o h2) : q_J g m_X15_read d mc ms h0 [] Q k n (q_kc (t, r, 0, 529, 539, (q_pE ext), (q_pR rx), L) I E 5 [some (.ref 492), none, none] [] [] []) := by
  rw [f_X15_read] at hf
  refine q_blk 1 [] (c' := q_kc (t, r, 0, 529, 539, (q_pE ext), (q_pR rx), L) I E 6 [some (.ref 492), none, none] [.ref 492] [] []) ok_X15_read rfl q_cn ?_
  obtain ⟨r10, hr10, hf⟩ := q_bd hf
  refine q_kV (M2 := m_X15_cut) (As := []) (b := 492) (v2 := none) ok_X15_read ok_X15_cut cv_X15_cut (ct_X15_cut_492_P (d := 11) (Nat.le_refl _) hr10) rfl rfl (Or.inl rfl) rfl rfl rfl rfl (Nat.le_trans (Nat.le_of_ble_eq_true rfl) hd) hk hn (Nat.le_of_ble_eq_true rfl) (fun x hx => absurd hx List.not_mem_nil) (q_nmL0 _) (q_nmS0 _) rfl (pos' := 7) (st' := []) (lI' := [(494, r10.1), (495, r10.2.1), (496, r10.2.2.1), (497, r10.2.2.2.1), (498, r10.2.2.2.2)]) (lE' := []) rfl rfl (q_mgw rfl rfl) rfl ?_
  refine q_blk 7 [] (c' := q_kc (t, r, 0, 529, 539, (q_pE ext), (q_pR rx), L) I E 14 [some (.ref 492), none, none] [.ref 492] [(492, (q_up (q_up (I 492) 9 (0 : Int32)) 10 (0 : Int32))), (494, r10.1), (495, r10.2.1), (496, r10.2.2.1), (497, r10.2.2.2.1), (498, r10.2.2.2.2)] []) ok_X15_read rfl q_cn ?_
  obtain ⟨r11, hr11, hf⟩ := q_bd hf
  refine q_kV (M2 := m_X15_isBarn) (As := []) (b := 492) (v2 := some (.int (q_bz r11.1))) ok_X15_read ok_X15_isBarn cv_X15_isBarn (ct_X15_isBarn_492_P (d := 403) (Nat.le_refl _) hr11) rfl rfl (Or.inl rfl) rfl rfl rfl rfl (Nat.le_trans (Nat.le_of_ble_eq_true rfl) hd) hk hn (Nat.le_of_ble_eq_true rfl) (fun x hx => absurd hx List.not_mem_nil) (q_nmL0 _) (q_nmS0 _) rfl (pos' := 15) (st' := [.int (q_bz r11.1)]) (lI' := [(492, r11.2.1), (494, r10.1), (495, r10.2.1), (496, r10.2.2.1), (497, r11.2.2.1), (498, r10.2.2.2.2), (529, r11.2.2.2.1), (534, r11.2.2.2.2.1), (535, r11.2.2.2.2.2.1), (536, r11.2.2.2.2.2.2.1), (537, r11.2.2.2.2.2.2.2.1), (538, r11.2.2.2.2.2.2.2.2)]) (lE' := []) rfl rfl (q_mgw rfl rfl) rfl ?_
  refine q_blf 0 [] (a := q_kc (t, r, 0, 529, 539, (q_pE ext), (q_pR rx), L) I E 25 [some (.ref 492), none, none] [] [(492, r11.2.1), (494, r10.1), (495, r10.2.1), (496, r10.2.2.1), (497, r11.2.2.1), (498, r10.2.2.2.2), (529, r11.2.2.2.1), (534, r11.2.2.2.2.1), (535, r11.2.2.2.2.2.1), (536, r11.2.2.2.2.2.2.1), (537, r11.2.2.2.2.2.2.2.1), (538, r11.2.2.2.2.2.2.2.2)] []) (b := q_kc (t, r, 0, 529, 539, (q_pE ext), (q_pR rx), L) I E 16 [some (.ref 492), none, none] [] [(492, r11.2.1), (494, r10.1), (495, r10.2.1), (496, r10.2.2.1), (497, r11.2.2.1), (498, r10.2.2.2.2), (529, r11.2.2.2.1), (534, r11.2.2.2.2.1), (535, r11.2.2.2.2.2.1), (536, r11.2.2.2.2.2.2.1), (537, r11.2.2.2.2.2.2.2.1), (538, r11.2.2.2.2.2.2.2.2)] []) (P := ¬ (q_bz r11.1) = 0) ok_X15_read rfl q_cn (fun h12 => ?_) (fun h12 => ?_)
  · have hf := q_ip h12 hf
    refine q_blk 6 [] (c' := q_kc (t, r, 0, 529, 539, (q_pE ext), (q_pR rx), L) I E 31 [some (.ref 492), some (.int (r11.2.1 9)), none] [] [(492, (q_up r11.2.1 9 (0 : Int32))), (494, r10.1), (495, r10.2.1), (496, r10.2.2.1), (497, r11.2.2.1), (498, r10.2.2.2.2), (529, r11.2.2.2.1), (534, r11.2.2.2.2.1), (535, r11.2.2.2.2.2.1), (536, r11.2.2.2.2.2.2.1), (537, r11.2.2.2.2.2.2.2.1), (538, r11.2.2.2.2.2.2.2.2)] []) ok_X15_read rfl q_cn ?_
    obtain ⟨r13, hr13, hf⟩ := q_bd hf
    refine lp_X15_read_L31_492_P (I := q_ws I [(492, (q_up r11.2.1 9 (0 : Int32))), (494, r10.1), (495, r10.2.1), (496, r10.2.2.1), (497, r11.2.2.1), (498, r10.2.2.2.2), (529, r11.2.2.2.1), (534, r11.2.2.2.2.1), (535, r11.2.2.2.2.2.1), (536, r11.2.2.2.2.2.2.1), (537, r11.2.2.2.2.2.2.2.1), (538, r11.2.2.2.2.2.2.2.2)]) (E := q_ws E []) hd hk hn 4096 hr13 ?_ ?_
    · intro hz0
      have hf := q_ip hz0 hf
      refine q_Jmrg (lI' := [(492, r13.2.2.1), (494, r10.1), (495, r10.2.1), (496, r10.2.2.1), (497, r11.2.2.1), (498, r13.2.2.2.1), (529, r13.2.2.2.2.1), (530, r13.2.2.2.2.2.1), (531, r13.2.2.2.2.2.2.1), (532, r13.2.2.2.2.2.2.2.1), (533, r13.2.2.2.2.2.2.2.2), (534, r11.2.2.2.2.1), (535, r11.2.2.2.2.2.1), (536, r11.2.2.2.2.2.2.1), (537, r11.2.2.2.2.2.2.2.1), (538, r11.2.2.2.2.2.2.2.2)]) (lE' := []) (q_mgw rfl rfl) (q_mgw rfl rfl) ?_
      refine q_blk 2 [] (c' := q_kc (t, r, 0, 529, 539, (q_pE ext), (q_pR rx), L) I E 61 [some (.ref 492), none, some (.int (0 : Int32))] [] [(492, r13.2.2.1), (494, r10.1), (495, r10.2.1), (496, r10.2.2.1), (497, r11.2.2.1), (498, r13.2.2.2.1), (529, r13.2.2.2.2.1), (530, r13.2.2.2.2.2.1), (531, r13.2.2.2.2.2.2.1), (532, r13.2.2.2.2.2.2.2.1), (533, r13.2.2.2.2.2.2.2.2), (534, r11.2.2.2.2.1), (535, r11.2.2.2.2.2.1), (536, r11.2.2.2.2.2.2.1), (537, r11.2.2.2.2.2.2.2.1), (538, r11.2.2.2.2.2.2.2.2)] []) ok_X15_read rfl q_cn ?_
      obtain ⟨r14, hr14, hf⟩ := q_bd hf
      refine lp_X15_read_L61_492_P (I := q_ws I [(492, r13.2.2.1), (494, r10.1), (495, r10.2.1), (496, r10.2.2.1), (497, r11.2.2.1), (498, r13.2.2.2.1), (529, r13.2.2.2.2.1), (530, r13.2.2.2.2.2.1), (531, r13.2.2.2.2.2.2.1), (532, r13.2.2.2.2.2.2.2.1), (533, r13.2.2.2.2.2.2.2.2), (534, r11.2.2.2.2.1), (535, r11.2.2.2.2.2.1), (536, r11.2.2.2.2.2.2.1), (537, r11.2.2.2.2.2.2.2.1), (538, r11.2.2.2.2.2.2.2.2)]) (E := q_ws E []) hd hk hn 4096 hr14 ?_
      refine q_Jmrg (lI' := [(492, r13.2.2.1), (494, r10.1), (495, r10.2.1), (496, r10.2.2.1), (497, r11.2.2.1), (498, r13.2.2.2.1), (529, r13.2.2.2.2.1), (530, r13.2.2.2.2.2.1), (531, r13.2.2.2.2.2.2.1), (532, r13.2.2.2.2.2.2.2.1), (533, r13.2.2.2.2.2.2.2.2), (534, r11.2.2.2.2.1), (535, r11.2.2.2.2.2.1), (536, r11.2.2.2.2.2.2.1), (537, r14), (538, r11.2.2.2.2.2.2.2.2)]) (lE' := []) (q_mgw rfl rfl) (q_mgw rfl rfl) ?_
      refine q_blk 1 [] (c' := q_kc (t, r, 0, 529, 539, (q_pE ext), (q_pR rx), L) I E 90 [none, none, none] [.int (0 : Int32)] [(492, r13.2.2.1), (494, r10.1), (495, r10.2.1), (496, r10.2.2.1), (497, r11.2.2.1), (498, r13.2.2.2.1), (529, r13.2.2.2.2.1), (530, r13.2.2.2.2.2.1), (531, r13.2.2.2.2.2.2.1), (532, r13.2.2.2.2.2.2.2.1), (533, r13.2.2.2.2.2.2.2.2), (534, r11.2.2.2.2.1), (535, r11.2.2.2.2.2.1), (536, r11.2.2.2.2.2.2.1), (537, r14), (538, r11.2.2.2.2.2.2.2.2)] []) ok_X15_read rfl q_cn ?_
      cases hf
      exact q_kri ok_X15_read rfl rfl rfl hk hn (hQ _ _ rfl (q_hpe (q_pdw [492, 494, 495, 496, 497, 498, 529, 530, 531, 532, 533, 534, 535, 536, 537, 538] rfl rfl) (q_pdw [] rfl rfl)))
    · intro hz1
      have hf := q_in (fun h9 => absurd (hz1.symm.trans h9) (by decide)) hf
      refine q_Jmrg (lI' := [(492, r13.2.2.1), (494, r10.1), (495, r10.2.1), (496, r10.2.2.1), (497, r11.2.2.1), (498, r13.2.2.2.1), (529, r13.2.2.2.2.1), (530, r13.2.2.2.2.2.1), (531, r13.2.2.2.2.2.2.1), (532, r13.2.2.2.2.2.2.2.1), (533, r13.2.2.2.2.2.2.2.2), (534, r11.2.2.2.2.1), (535, r11.2.2.2.2.2.1), (536, r11.2.2.2.2.2.2.1), (537, r11.2.2.2.2.2.2.2.1), (538, r11.2.2.2.2.2.2.2.2)]) (lE' := []) (q_mgw rfl rfl) (q_mgw rfl rfl) ?_
      obtain ⟨j15, hj15, hf⟩ := q_bd hf
      refine q_blk 8 [j15] (c' := q_kc (t, r, 0, 529, 539, (q_pE ext), (q_pR rx), L) I E 51 [some (.ref 492), none, some (.int r13.2.1)] [.int r13.2.1] [(492, (q_up r13.2.2.1 3 (r10.2.1 j15))), (494, r10.1), (495, r10.2.1), (496, r10.2.2.1), (497, r11.2.2.1), (498, r13.2.2.2.1), (529, r13.2.2.2.2.1), (530, r13.2.2.2.2.2.1), (531, r13.2.2.2.2.2.2.1), (532, r13.2.2.2.2.2.2.2.1), (533, r13.2.2.2.2.2.2.2.2), (534, r11.2.2.2.2.1), (535, r11.2.2.2.2.2.1), (536, r11.2.2.2.2.2.2.1), (537, r11.2.2.2.2.2.2.2.1), (538, r11.2.2.2.2.2.2.2.2)] []) ok_X15_read rfl (q_cc hj15 q_cn) ?_
      cases hf
      exact q_kri ok_X15_read rfl rfl rfl hk hn (hQ _ _ rfl (q_hpe (q_pdw [492, 494, 495, 496, 497, 498, 529, 530, 531, 532, 533, 534, 535, 536, 537, 538] rfl rfl) (q_pdw [] rfl rfl)))
  · have hf := q_in h12 hf
    obtain ⟨j16, hj16, hf⟩ := q_bd hf
    refine q_blk 8 [j16] (c' := q_kc (t, r, 0, 529, 539, (q_pE ext), (q_pR rx), L) I E 24 [some (.ref 492), none, none] [.int (1 : Int32)] [(492, (q_up r11.2.1 3 (r10.2.1 j16))), (494, r10.1), (495, r10.2.1), (496, r10.2.2.1), (497, r11.2.2.1), (498, r10.2.2.2.2), (529, r11.2.2.2.1), (534, r11.2.2.2.2.1), (535, r11.2.2.2.2.2.1), (536, r11.2.2.2.2.2.2.1), (537, r11.2.2.2.2.2.2.2.1), (538, r11.2.2.2.2.2.2.2.2)] []) ok_X15_read rfl (q_cc hj16 q_cn) ?_
    cases hf
    exact q_kri ok_X15_read rfl rfl rfl hk hn (hQ _ _ rfl (q_hpe (q_pdw [492, 494, 495, 496, 497, 498, 529, 530, 531, 532, 533, 534, 535, 536, 537, 538] rfl rfl) (q_pdw [] rfl rfl)))
