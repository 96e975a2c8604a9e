set_option maxHeartbeats 4000000 in
theorem lp_X15_isProduct_L5_492 {g : q_G} {dR mc ms : Nat} {h0 : q_H} {Q : (Option Value ⊕ String) → q_H → Prop} {k n : Nat} {t : Nat} {r : Nat} {ext : Nat → q_Sh} {rx : Nat → Nat → Option Nat} {L : Nat → Nat → Int64} (hk : k ≤ mc) (hn : n ≤ ms)  {r_isValue : (Nat → Int32) → (Nat → Int32) → (Nat → Int32) → (Nat → Int32) → (Nat → Int32) → (Nat → Int32) → (Nat → Int32) → (Nat → Int32) → (Nat → Int32) → Option (Bool × (Nat → Int32) × (Nat → Int32) × (Nat → Int32) × (Nat → Int32) × (Nat → Int32))} (hq_isValue : ∀ {I : Nat → Nat → Int32} {E : Nat → Nat → Option Nat} {r0 : Bool × (Nat → Int32) × (Nat → Int32) × (Nat → Int32) × (Nat → Int32) × (Nat → Int32)}, r_isValue ((I 492)) ((I 493)) ((I 494)) ((I 495)) ((I 496)) ((I 497)) ((I 529)) ((I 537)) ((I 538)) = some r0 → q_Ct g m_X15_isValue dR 0 0 [] [.ref 492] (q_hp (t, r, 0, 529, 539, (q_pE ext), (q_pR rx), L) I E) (fun o h' => o = .inl (some (.int (q_bz r0.1))) ∧ h' = q_hp (t, r, 0, 529, 539, (q_pE ext), (q_pR rx), L) (q_ws I [(492, r0.2.1), (497, r0.2.2.1), (529, r0.2.2.2.1), (537, r0.2.2.2.2.1), (538, r0.2.2.2.2.2)]) (q_ws E []))) {r_isSum : (Nat → Int32) → (Nat → Int32) → (Nat → Int32) → (Nat → Int32) → (Nat → Int32) → (Nat → Int32) → (Nat → Int32) → (Nat → Int32) → (Nat → Int32) → Option (Bool × (Nat → Int32) × (Nat → Int32) × (Nat → Int32) × (Nat → Int32) × (Nat → Int32))} (hq_isSum : ∀ {I : Nat → Nat → Int32} {E : Nat → Nat → Option Nat} {r0 : Bool × (Nat → Int32) × (Nat → Int32) × (Nat → Int32) × (Nat → Int32) × (Nat → Int32)}, r_isSum ((I 492)) ((I 493)) ((I 494)) ((I 495)) ((I 496)) ((I 497)) ((I 529)) ((I 537)) ((I 538)) = some r0 → q_Ct g m_X15_isSum dR 0 0 [] [.ref 492] (q_hp (t, r, 0, 529, 539, (q_pE ext), (q_pR rx), L) I E) (fun o h' => o = .inl (some (.int (q_bz r0.1))) ∧ h' = q_hp (t, r, 0, 529, 539, (q_pE ext), (q_pR rx), L) (q_ws I [(492, r0.2.1), (497, r0.2.2.1), (529, r0.2.2.2.1), (537, r0.2.2.2.2.1), (538, r0.2.2.2.2.2)]) (q_ws E []))) : ∀ (fu : Nat) {I : Nat → Nat → Int32} {E : Nat → Nat → Option Nat} {r0 : Nat × (Nat → Int32) × (Nat → Int32) × (Nat → Int32) × (Nat → Int32) × (Nat → Int32)} (hf : f_X15_isProduct_L5 r_isValue r_isSum (I 493) (I 494) (I 495) (I 496) fu (I 492) (I 497) (I 529) (I 537) (I 538) = some r0) (hK0 : r0.1 = 0 → q_J g m_X15_isProduct (dR + 6) mc ms h0 [] Q k n (q_kc (t, r, 0, 529, 539, (q_pE ext), (q_pR rx), L) I E 36 [none, none] [] [(492, r0.2.1), (497, r0.2.2.1), (529, r0.2.2.2.1), (537, r0.2.2.2.2.1), (538, r0.2.2.2.2.2)] [])) (hK1 : r0.1 = 1 → q_J g m_X15_isProduct (dR + 6) mc ms h0 [] Q k n (q_kc (t, r, 0, 529, 539, (q_pE ext), (q_pR rx), L) I E 30 [none, none] [] [(492, r0.2.1), (497, r0.2.2.1), (529, r0.2.2.2.1), (537, r0.2.2.2.2.1), (538, r0.2.2.2.2.2)] [])), q_J g m_X15_isProduct (dR + 6) mc ms h0 [] Q k n (5, [some (.ref 492), none], [], q_hp (t, r, 0, 529, 539, (q_pE ext), (q_pR rx), L) I E) := by
  intro fu
  induction fu with
  | zero =>
    intro I E r0 hf hK0 hK1
    rw [f_X15_isProduct_L5] at hf
    cases hf
  | succ fu ih =>
    intro I E r0 hf hK0 hK1
    rw [f_X15_isProduct_L5] at hf
    change q_J g m_X15_isProduct (dR + 6) mc ms h0 [] Q k n (q_kc (t, r, 0, 529, 539, (q_pE ext), (q_pR rx), L) I E 5 [some (.ref 492), none] [] [] [])
    refine q_blk 2 [] (c' := q_kc (t, r, 0, 529, 539, (q_pE ext), (q_pR rx), L) I E 7 [some (.ref 492), none] [.int (42 : Int32), .ref 492] [] []) ok_X15_isProduct rfl q_cn ?_
    obtain ⟨r1, hr1, hf⟩ := q_bd hf
    refine q_kV (M2 := m_X15_isSign) (As := [.int (42 : Int32)]) (b := 492) (v2 := some (.int (q_bz r1))) ok_X15_isProduct ok_X15_isSign cv_X15_isSign (ct_X15_isSign_492 (d := 1) (Nat.le_refl _) hr1) rfl rfl (Or.inl rfl) rfl rfl rfl rfl (by omega) hk hn (Nat.le_of_ble_eq_true rfl) (fun x hx => absurd hx List.not_mem_nil) (q_nmL0 _) (q_nmS0 _) rfl (pos' := 8) (st' := [.int (q_bz r1)]) (lI' := []) (lE' := []) rfl rfl rfl rfl ?_
    refine q_blf 0 [] (a := q_kc (t, r, 0, 529, 539, (q_pE ext), (q_pR rx), L) I E 13 [some (.ref 492), none] [] [] []) (b := q_kc (t, r, 0, 529, 539, (q_pE ext), (q_pR rx), L) I E 9 [some (.ref 492), none] [] [] []) (P := ¬ (q_bz r1) = 0) ok_X15_isProduct rfl q_cn (fun h2 => ?_) (fun h2 => ?_)
    · have hf := q_ip h2 hf
      refine q_blk 2 [] (c' := q_kc (t, r, 0, 529, 539, (q_pE ext), (q_pR rx), L) I E 15 [some (.ref 492), none] [.int (42 : Int32), .ref 492] [] []) ok_X15_isProduct rfl q_cn ?_
      obtain ⟨r3, hr3, hf⟩ := q_bd hf
      refine q_kV (M2 := m_X15_isSign) (As := [.int (42 : Int32)]) (b := 492) (v2 := some (.int (q_bz r3))) ok_X15_isProduct ok_X15_isSign cv_X15_isSign (ct_X15_isSign_492 (d := 1) (Nat.le_refl _) hr3) rfl rfl (Or.inl rfl) rfl rfl rfl rfl (by omega) hk hn (Nat.le_of_ble_eq_true rfl) (fun x hx => absurd hx List.not_mem_nil) (q_nmL0 _) (q_nmS0 _) rfl (pos' := 16) (st' := [.int (q_bz r3)]) (lI' := []) (lE' := []) rfl rfl rfl rfl ?_
      refine q_blf 0 [] (a := q_kc (t, r, 0, 529, 539, (q_pE ext), (q_pR rx), L) I E 19 [some (.ref 492), none] [] [] []) (b := q_kc (t, r, 0, 529, 539, (q_pE ext), (q_pR rx), L) I E 17 [some (.ref 492), none] [] [] []) (P := (q_bz r3) = 0) ok_X15_isProduct rfl q_cn (fun h4 => ?_) (fun h4 => ?_)
      · have hf := q_ip h4 hf
        refine q_blk 9 [] (c' := q_kc (t, r, 0, 529, 539, (q_pE ext), (q_pR rx), L) I E 28 [some (.ref 492), some (.int (37 : Int32))] [.ref 492] [(492, (q_up (I 492) 9 (((I 492) 9) + (1 : Int32))))] []) ok_X15_isProduct rfl q_cn ?_
        obtain ⟨r5, hr5, hf⟩ := q_bd hf
        refine q_kV (M2 := m_X15_isValue) (As := []) (b := 492) (v2 := some (.int (q_bz r5.1))) ok_X15_isProduct ok_X15_isValue cv_X15_isValue (ct_X15_isValue_492 hq_isValue hq_isSum hr5) rfl rfl (Or.inl rfl) rfl rfl rfl rfl (by omega) hk hn (Nat.le_of_ble_eq_true rfl) (fun x hx => absurd hx List.not_mem_nil) (q_nmL0 _) (q_nmS0 _) rfl (pos' := 29) (st' := [.int (q_bz r5.1)]) (lI' := [(492, r5.2.1), (497, r5.2.2.1), (529, r5.2.2.2.1), (537, r5.2.2.2.2.1), (538, r5.2.2.2.2.2)]) (lE' := []) rfl rfl rfl rfl ?_
        refine q_blf 0 [] (a := q_kc (t, r, 0, 529, 539, (q_pE ext), (q_pR rx), L) I E 32 [some (.ref 492), some (.int (37 : Int32))] [] [(492, r5.2.1), (497, r5.2.2.1), (529, r5.2.2.2.1), (537, r5.2.2.2.2.1), (538, r5.2.2.2.2.2)] []) (b := q_kc (t, r, 0, 529, 539, (q_pE ext), (q_pR rx), L) I E 30 [some (.ref 492), some (.int (37 : Int32))] [] [(492, r5.2.1), (497, r5.2.2.1), (529, r5.2.2.2.1), (537, r5.2.2.2.2.1), (538, r5.2.2.2.2.2)] []) (P := ¬ (q_bz r5.1) = 0) ok_X15_isProduct rfl q_cn (fun h6 => ?_) (fun h6 => ?_)
        · have hf := q_ip h6 hf
          refine q_blk 2 [] (c' := q_kc (t, r, 0, 529, 539, (q_pE ext), (q_pR rx), L) I E 34 [some (.ref 492), some (.int (37 : Int32))] [.int (37 : Int32), .ref 492] [(492, r5.2.1), (497, r5.2.2.1), (529, r5.2.2.2.1), (537, r5.2.2.2.2.1), (538, r5.2.2.2.2.2)] []) ok_X15_isProduct rfl q_cn ?_
          obtain ⟨r7, hr7, hf⟩ := q_bd hf
          refine q_kV (M2 := m_X15_put) (As := [.int (37 : Int32)]) (b := 492) (v2 := none) ok_X15_isProduct ok_X15_put cv_X15_put (ct_X15_put_492 (d := 1) (Nat.le_refl _) hr7) rfl rfl (Or.inl rfl) rfl rfl rfl rfl (by omega) hk hn (Nat.le_of_ble_eq_true rfl) (fun x hx => absurd hx List.not_mem_nil) (q_nmL0 _) (q_nmS0 _) rfl (pos' := 35) (st' := []) (lI' := [(492, r5.2.1), (497, r5.2.2.1), (529, r7.1), (537, r7.2), (538, r5.2.2.2.2.2)]) (lE' := []) rfl rfl rfl rfl ?_
          refine q_blk 1 [] (c' := q_kc (t, r, 0, 529, 539, (q_pE ext), (q_pR rx), L) I E 5 [some (.ref 492), some (.int (37 : Int32))] [] [(492, r5.2.1), (497, r5.2.2.1), (529, r7.1), (537, r7.2), (538, r5.2.2.2.2.2)] []) ok_X15_isProduct rfl q_cn ?_
          refine q_less (ls' := [some (.ref 492), none]) (q_sb2 (q_sb1 q_sb0)) ?_
          exact ih (I := q_ws I [(492, r5.2.1), (497, r5.2.2.1), (529, r7.1), (537, r7.2), (538, r5.2.2.2.2.2)]) (E := q_ws E []) hf (fun hz => q_Jmrg rfl rfl (hK0 hz)) (fun hz => q_Jmrg rfl rfl (hK1 hz))
        · have hf := q_in h6 hf
          refine q_less (ls' := [none, none]) (q_sb1 (q_sb1 q_sb0)) ?_
          cases hf
          exact q_Jpad [492, 497, 529, 537, 538] [] rfl rfl (hK1 rfl)
      · have hf := q_in h4 hf
        refine q_blk 10 [] (c' := q_kc (t, r, 0, 529, 539, (q_pE ext), (q_pR rx), L) I E 28 [some (.ref 492), some (.int (36 : Int32))] [.ref 492] [(492, (q_up (I 492) 9 (((I 492) 9) + (1 : Int32))))] []) ok_X15_isProduct rfl q_cn ?_
        obtain ⟨r8, hr8, hf⟩ := q_bd hf
        refine q_kV (M2 := m_X15_isValue) (As := []) (b := 492) (v2 := some (.int (q_bz r8.1))) ok_X15_isProduct ok_X15_isValue cv_X15_isValue (ct_X15_isValue_492 hq_isValue hq_isSum hr8) rfl rfl (Or.inl rfl) rfl rfl rfl rfl (by omega) hk hn (Nat.le_of_ble_eq_true rfl) (fun x hx => absurd hx List.not_mem_nil) (q_nmL0 _) (q_nmS0 _) rfl (pos' := 29) (st' := [.int (q_bz r8.1)]) (lI' := [(492, r8.2.1), (497, r8.2.2.1), (529, r8.2.2.2.1), (537, r8.2.2.2.2.1), (538, r8.2.2.2.2.2)]) (lE' := []) rfl rfl rfl rfl ?_
        refine q_blf 0 [] (a := q_kc (t, r, 0, 529, 539, (q_pE ext), (q_pR rx), L) I E 32 [some (.ref 492), some (.int (36 : Int32))] [] [(492, r8.2.1), (497, r8.2.2.1), (529, r8.2.2.2.1), (537, r8.2.2.2.2.1), (538, r8.2.2.2.2.2)] []) (b := q_kc (t, r, 0, 529, 539, (q_pE ext), (q_pR rx), L) I E 30 [some (.ref 492), some (.int (36 : Int32))] [] [(492, r8.2.1), (497, r8.2.2.1), (529, r8.2.2.2.1), (537, r8.2.2.2.2.1), (538, r8.2.2.2.2.2)] []) (P := ¬ (q_bz r8.1) = 0) ok_X15_isProduct rfl q_cn (fun h9 => ?_) (fun h9 => ?_)
        · have hf := q_ip h9 hf
          refine q_blk 2 [] (c' := q_kc (t, r, 0, 529, 539, (q_pE ext), (q_pR rx), L) I E 34 [some (.ref 492), some (.int (36 : Int32))] [.int (36 : Int32), .ref 492] [(492, r8.2.1), (497, r8.2.2.1), (529, r8.2.2.2.1), (537, r8.2.2.2.2.1), (538, r8.2.2.2.2.2)] []) ok_X15_isProduct rfl q_cn ?_
          obtain ⟨r10, hr10, hf⟩ := q_bd hf
          refine q_kV (M2 := m_X15_put) (As := [.int (36 : Int32)]) (b := 492) (v2 := none) ok_X15_isProduct ok_X15_put cv_X15_put (ct_X15_put_492 (d := 1) (Nat.le_refl _) hr10) rfl rfl (Or.inl rfl) rfl rfl rfl rfl (by omega) hk hn (Nat.le_of_ble_eq_true rfl) (fun x hx => absurd hx List.not_mem_nil) (q_nmL0 _) (q_nmS0 _) rfl (pos' := 35) (st' := []) (lI' := [(492, r8.2.1), (497, r8.2.2.1), (529, r10.1), (537, r10.2), (538, r8.2.2.2.2.2)]) (lE' := []) rfl rfl rfl rfl ?_
          refine q_blk 1 [] (c' := q_kc (t, r, 0, 529, 539, (q_pE ext), (q_pR rx), L) I E 5 [some (.ref 492), some (.int (36 : Int32))] [] [(492, r8.2.1), (497, r8.2.2.1), (529, r10.1), (537, r10.2), (538, r8.2.2.2.2.2)] []) ok_X15_isProduct rfl q_cn ?_
          refine q_less (ls' := [some (.ref 492), none]) (q_sb2 (q_sb1 q_sb0)) ?_
          exact ih (I := q_ws I [(492, r8.2.1), (497, r8.2.2.1), (529, r10.1), (537, r10.2), (538, r8.2.2.2.2.2)]) (E := q_ws E []) hf (fun hz => q_Jmrg rfl rfl (hK0 hz)) (fun hz => q_Jmrg rfl rfl (hK1 hz))
        · have hf := q_in h9 hf
          refine q_less (ls' := [none, none]) (q_sb1 (q_sb1 q_sb0)) ?_
          cases hf
          exact q_Jpad [492, 497, 529, 537, 538] [] rfl rfl (hK1 rfl)
    · have hf := q_in h2 hf
      refine q_blk 2 [] (c' := q_kc (t, r, 0, 529, 539, (q_pE ext), (q_pR rx), L) I E 11 [some (.ref 492), none] [.int (47 : Int32), .ref 492] [] []) ok_X15_isProduct rfl q_cn ?_
      obtain ⟨r11, hr11, hf⟩ := q_bd hf
      refine q_kV (M2 := m_X15_isSign) (As := [.int (47 : Int32)]) (b := 492) (v2 := some (.int (q_bz r11))) ok_X15_isProduct ok_X15_isSign cv_X15_isSign (ct_X15_isSign_492 (d := 1) (Nat.le_refl _) hr11) rfl rfl (Or.inl rfl) rfl rfl rfl rfl (by omega) hk hn (Nat.le_of_ble_eq_true rfl) (fun x hx => absurd hx List.not_mem_nil) (q_nmL0 _) (q_nmS0 _) rfl (pos' := 12) (st' := [.int (q_bz r11)]) (lI' := []) (lE' := []) rfl rfl rfl rfl ?_
      refine q_blf 0 [] (a := q_kc (t, r, 0, 529, 539, (q_pE ext), (q_pR rx), L) I E 36 [some (.ref 492), none] [] [] []) (b := q_kc (t, r, 0, 529, 539, (q_pE ext), (q_pR rx), L) I E 13 [some (.ref 492), none] [] [] []) (P := (q_bz r11) = 0) ok_X15_isProduct rfl q_cn (fun h12 => ?_) (fun h12 => ?_)
      · have hf := q_ip h12 hf
        refine q_less (ls' := [none, none]) (q_sb1 (q_sb1 q_sb0)) ?_
        cases hf
        exact q_Jpad [492, 497, 529, 537, 538] [] rfl rfl (hK0 rfl)
      · have hf := q_in h12 hf
        refine q_blk 2 [] (c' := q_kc (t, r, 0, 529, 539, (q_pE ext), (q_pR rx), L) I E 15 [some (.ref 492), none] [.int (42 : Int32), .ref 492] [] []) ok_X15_isProduct rfl q_cn ?_
        obtain ⟨r13, hr13, hf⟩ := q_bd hf
        refine q_kV (M2 := m_X15_isSign) (As := [.int (42 : Int32)]) (b := 492) (v2 := some (.int (q_bz r13))) ok_X15_isProduct ok_X15_isSign cv_X15_isSign (ct_X15_isSign_492 (d := 1) (Nat.le_refl _) hr13) rfl rfl (Or.inl rfl) rfl rfl rfl rfl (by omega) hk hn (Nat.le_of_ble_eq_true rfl) (fun x hx => absurd hx List.not_mem_nil) (q_nmL0 _) (q_nmS0 _) rfl (pos' := 16) (st' := [.int (q_bz r13)]) (lI' := []) (lE' := []) rfl rfl rfl rfl ?_
        refine q_blf 0 [] (a := q_kc (t, r, 0, 529, 539, (q_pE ext), (q_pR rx), L) I E 19 [some (.ref 492), none] [] [] []) (b := q_kc (t, r, 0, 529, 539, (q_pE ext), (q_pR rx), L) I E 17 [some (.ref 492), none] [] [] []) (P := (q_bz r13) = 0) ok_X15_isProduct rfl q_cn (fun h14 => ?_) (fun h14 => ?_)
        · have hf := q_ip h14 hf
          refine q_blk 9 [] (c' := q_kc (t, r, 0, 529, 539, (q_pE ext), (q_pR rx), L) I E 28 [some (.ref 492), some (.int (37 : Int32))] [.ref 492] [(492, (q_up (I 492) 9 (((I 492) 9) + (1 : Int32))))] []) ok_X15_isProduct rfl q_cn ?_
          obtain ⟨r15, hr15, hf⟩ := q_bd hf
          refine q_kV (M2 := m_X15_isValue) (As := []) (b := 492) (v2 := some (.int (q_bz r15.1))) ok_X15_isProduct ok_X15_isValue cv_X15_isValue (ct_X15_isValue_492 hq_isValue hq_isSum hr15) rfl rfl (Or.inl rfl) rfl rfl rfl rfl (by omega) hk hn (Nat.le_of_ble_eq_true rfl) (fun x hx => absurd hx List.not_mem_nil) (q_nmL0 _) (q_nmS0 _) rfl (pos' := 29) (st' := [.int (q_bz r15.1)]) (lI' := [(492, r15.2.1), (497, r15.2.2.1), (529, r15.2.2.2.1), (537, r15.2.2.2.2.1), (538, r15.2.2.2.2.2)]) (lE' := []) rfl rfl rfl rfl ?_
          refine q_blf 0 [] (a := q_kc (t, r, 0, 529, 539, (q_pE ext), (q_pR rx), L) I E 32 [some (.ref 492), some (.int (37 : Int32))] [] [(492, r15.2.1), (497, r15.2.2.1), (529, r15.2.2.2.1), (537, r15.2.2.2.2.1), (538, r15.2.2.2.2.2)] []) (b := q_kc (t, r, 0, 529, 539, (q_pE ext), (q_pR rx), L) I E 30 [some (.ref 492), some (.int (37 : Int32))] [] [(492, r15.2.1), (497, r15.2.2.1), (529, r15.2.2.2.1), (537, r15.2.2.2.2.1), (538, r15.2.2.2.2.2)] []) (P := ¬ (q_bz r15.1) = 0) ok_X15_isProduct rfl q_cn (fun h16 => ?_) (fun h16 => ?_)
          · have hf := q_ip h16 hf
            refine q_blk 2 [] (c' := q_kc (t, r, 0, 529, 539, (q_pE ext), (q_pR rx), L) I E 34 [some (.ref 492), some (.int (37 : Int32))] [.int (37 : Int32), .ref 492] [(492, r15.2.1), (497, r15.2.2.1), (529, r15.2.2.2.1), (537, r15.2.2.2.2.1), (538, r15.2.2.2.2.2)] []) ok_X15_isProduct rfl q_cn ?_
            obtain ⟨r17, hr17, hf⟩ := q_bd hf
            refine q_kV (M2 := m_X15_put) (As := [.int (37 : Int32)]) (b := 492) (v2 := none) ok_X15_isProduct ok_X15_put cv_X15_put (ct_X15_put_492 (d := 1) (Nat.le_refl _) hr17) rfl rfl (Or.inl rfl) rfl rfl rfl rfl (by omega) hk hn (Nat.le_of_ble_eq_true rfl) (fun x hx => absurd hx List.not_mem_nil) (q_nmL0 _) (q_nmS0 _) rfl (pos' := 35) (st' := []) (lI' := [(492, r15.2.1), (497, r15.2.2.1), (529, r17.1), (537, r17.2), (538, r15.2.2.2.2.2)]) (lE' := []) rfl rfl rfl rfl ?_
            refine q_blk 1 [] (c' := q_kc (t, r, 0, 529, 539, (q_pE ext), (q_pR rx), L) I E 5 [some (.ref 492), some (.int (37 : Int32))] [] [(492, r15.2.1), (497, r15.2.2.1), (529, r17.1), (537, r17.2), (538, r15.2.2.2.2.2)] []) ok_X15_isProduct rfl q_cn ?_
            refine q_less (ls' := [some (.ref 492), none]) (q_sb2 (q_sb1 q_sb0)) ?_
            exact ih (I := q_ws I [(492, r15.2.1), (497, r15.2.2.1), (529, r17.1), (537, r17.2), (538, r15.2.2.2.2.2)]) (E := q_ws E []) hf (fun hz => q_Jmrg rfl rfl (hK0 hz)) (fun hz => q_Jmrg rfl rfl (hK1 hz))
          · have hf := q_in h16 hf
            refine q_less (ls' := [none, none]) (q_sb1 (q_sb1 q_sb0)) ?_
            cases hf
            exact q_Jpad [492, 497, 529, 537, 538] [] rfl rfl (hK1 rfl)
        · have hf := q_in h14 hf
          refine q_blk 10 [] (c' := q_kc (t, r, 0, 529, 539, (q_pE ext), (q_pR rx), L) I E 28 [some (.ref 492), some (.int (36 : Int32))] [.ref 492] [(492, (q_up (I 492) 9 (((I 492) 9) + (1 : Int32))))] []) ok_X15_isProduct rfl q_cn ?_
          obtain ⟨r18, hr18, hf⟩ := q_bd hf
          refine q_kV (M2 := m_X15_isValue) (As := []) (b := 492) (v2 := some (.int (q_bz r18.1))) ok_X15_isProduct ok_X15_isValue cv_X15_isValue (ct_X15_isValue_492 hq_isValue hq_isSum hr18) rfl rfl (Or.inl rfl) rfl rfl rfl rfl (by omega) hk hn (Nat.le_of_ble_eq_true rfl) (fun x hx => absurd hx List.not_mem_nil) (q_nmL0 _) (q_nmS0 _) rfl (pos' := 29) (st' := [.int (q_bz r18.1)]) (lI' := [(492, r18.2.1), (497, r18.2.2.1), (529, r18.2.2.2.1), (537, r18.2.2.2.2.1), (538, r18.2.2.2.2.2)]) (lE' := []) rfl rfl rfl rfl ?_
          refine q_blf 0 [] (a := q_kc (t, r, 0, 529, 539, (q_pE ext), (q_pR rx), L) I E 32 [some (.ref 492), some (.int (36 : Int32))] [] [(492, r18.2.1), (497, r18.2.2.1), (529, r18.2.2.2.1), (537, r18.2.2.2.2.1), (538, r18.2.2.2.2.2)] []) (b := q_kc (t, r, 0, 529, 539, (q_pE ext), (q_pR rx), L) I E 30 [some (.ref 492), some (.int (36 : Int32))] [] [(492, r18.2.1), (497, r18.2.2.1), (529, r18.2.2.2.1), (537, r18.2.2.2.2.1), (538, r18.2.2.2.2.2)] []) (P := ¬ (q_bz r18.1) = 0) ok_X15_isProduct rfl q_cn (fun h19 => ?_) (fun h19 => ?_)
          · have hf := q_ip h19 hf
            refine q_blk 2 [] (c' := q_kc (t, r, 0, 529, 539, (q_pE ext), (q_pR rx), L) I E 34 [some (.ref 492), some (.int (36 : Int32))] [.int (36 : Int32), .ref 492] [(492, r18.2.1), (497, r18.2.2.1), (529, r18.2.2.2.1), (537, r18.2.2.2.2.1), (538, r18.2.2.2.2.2)] []) ok_X15_isProduct rfl q_cn ?_
            obtain ⟨r20, hr20, hf⟩ := q_bd hf
            refine q_kV (M2 := m_X15_put) (As := [.int (36 : Int32)]) (b := 492) (v2 := none) ok_X15_isProduct ok_X15_put cv_X15_put (ct_X15_put_492 (d := 1) (Nat.le_refl _) hr20) rfl rfl (Or.inl rfl) rfl rfl rfl rfl (by omega) hk hn (Nat.le_of_ble_eq_true rfl) (fun x hx => absurd hx List.not_mem_nil) (q_nmL0 _) (q_nmS0 _) rfl (pos' := 35) (st' := []) (lI' := [(492, r18.2.1), (497, r18.2.2.1), (529, r20.1), (537, r20.2), (538, r18.2.2.2.2.2)]) (lE' := []) rfl rfl rfl rfl ?_
            refine q_blk 1 [] (c' := q_kc (t, r, 0, 529, 539, (q_pE ext), (q_pR rx), L) I E 5 [some (.ref 492), some (.int (36 : Int32))] [] [(492, r18.2.1), (497, r18.2.2.1), (529, r20.1), (537, r20.2), (538, r18.2.2.2.2.2)] []) ok_X15_isProduct rfl q_cn ?_
            refine q_less (ls' := [some (.ref 492), none]) (q_sb2 (q_sb1 q_sb0)) ?_
            exact ih (I := q_ws I [(492, r18.2.1), (497, r18.2.2.1), (529, r20.1), (537, r20.2), (538, r18.2.2.2.2.2)]) (E := q_ws E []) hf (fun hz => q_Jmrg rfl rfl (hK0 hz)) (fun hz => q_Jmrg rfl rfl (hK1 hz))
          · have hf := q_in h19 hf
            refine q_less (ls' := [none, none]) (q_sb1 (q_sb1 q_sb0)) ?_
            cases hf
            exact q_Jpad [492, 497, 529, 537, 538] [] rfl rfl (hK1 rfl)
set_option maxHeartbeats 4000000 in
theorem ct_X15_isProduct_492 {g : q_G} {t : Nat} {r : Nat} {ext : Nat → q_Sh} {rx : Nat → Nat → Option Nat} {L : Nat → Nat → Int64} {dR : Nat}  {r_isValue : (Nat → Int32) → (Nat → Int32) → (Nat → Int32) → (Nat → Int32) → (Nat → Int32) → (Nat → Int32) → (Nat → Int32) → (Nat → Int32) → (Nat → Int32) → Option (Bool × (Nat → Int32) × (Nat → Int32) × (Nat → Int32) × (Nat → Int32) × (Nat → Int32))} (hq_isValue : ∀ {I : Nat → Nat → Int32} {E : Nat → Nat → Option Nat} {r0 : Bool × (Nat → Int32) × (Nat → Int32) × (Nat → Int32) × (Nat → Int32) × (Nat → Int32)}, r_isValue ((I 492)) ((I 493)) ((I 494)) ((I 495)) ((I 496)) ((I 497)) ((I 529)) ((I 537)) ((I 538)) = some r0 → q_Ct g m_X15_isValue dR 0 0 [] [.ref 492] (q_hp (t, r, 0, 529, 539, (q_pE ext), (q_pR rx), L) I E) (fun o h' => o = .inl (some (.int (q_bz r0.1))) ∧ h' = q_hp (t, r, 0, 529, 539, (q_pE ext), (q_pR rx), L) (q_ws I [(492, r0.2.1), (497, r0.2.2.1), (529, r0.2.2.2.1), (537, r0.2.2.2.2.1), (538, r0.2.2.2.2.2)]) (q_ws E []))) {r_isSum : (Nat → Int32) → (Nat → Int32) → (Nat → Int32) → (Nat → Int32) → (Nat → Int32) → (Nat → Int32) → (Nat → Int32) → (Nat → Int32) → (Nat → Int32) → Option (Bool × (Nat → Int32) × (Nat → Int32) × (Nat → Int32) × (Nat → Int32) × (Nat → Int32))} (hq_isSum : ∀ {I : Nat → Nat → Int32} {E : Nat → Nat → Option Nat} {r0 : Bool × (Nat → Int32) × (Nat → Int32) × (Nat → Int32) × (Nat → Int32) × (Nat → Int32)}, r_isSum ((I 492)) ((I 493)) ((I 494)) ((I 495)) ((I 496)) ((I 497)) ((I 529)) ((I 537)) ((I 538)) = some r0 → q_Ct g m_X15_isSum dR 0 0 [] [.ref 492] (q_hp (t, r, 0, 529, 539, (q_pE ext), (q_pR rx), L) I E) (fun o h' => o = .inl (some (.int (q_bz r0.1))) ∧ h' = q_hp (t, r, 0, 529, 539, (q_pE ext), (q_pR rx), L) (q_ws I [(492, r0.2.1), (497, r0.2.2.1), (529, r0.2.2.2.1), (537, r0.2.2.2.2.1), (538, r0.2.2.2.2.2)]) (q_ws E []))){I : Nat → Nat → Int32} {E : Nat → Nat → Option Nat} {r0 : Bool × (Nat → Int32) × (Nat → Int32) × (Nat → Int32) × (Nat → Int32) × (Nat → Int32)} (hf : f_X15_isProduct r_isValue r_isSum (I 492) (I 493) (I 494) (I 495) (I 496) (I 497) (I 529) (I 537) (I 538) = some r0) : q_Ct g m_X15_isProduct (dR + 6) 0 0 [] [.ref 492] (q_hp (t, r, 0, 529, 539, (q_pE ext), (q_pR rx), L) I E) (fun o h' => o = .inl (some (.int (q_bz r0.1))) ∧ h' = q_hp (t, r, 0, 529, 539, (q_pE ext), (q_pR rx), L) (q_ws I [(492, r0.2.1), (497, r0.2.2.1), (529, r0.2.2.2.1), (537, r0.2.2.2.2.1), (538, r0.2.2.2.2.2)]) (q_ws E [])) := by
  rw [f_X15_isProduct] at hf
  refine q_Ct_of ok_X15_isProduct (Nat.le_of_ble_eq_true rfl) ?_ _ rfl rfl
  change q_J g m_X15_isProduct (dR + 6) 0 0 _ [] _ 0 0 (q_kc (t, r, 0, 529, 539, (q_pE ext), (q_pR rx), L) I E 0 [some (.ref 492), none] [] [] [])
  refine q_blk 1 [] (c' := q_kc (t, r, 0, 529, 539, (q_pE ext), (q_pR rx), L) I E 1 [some (.ref 492), none] [.ref 492] [] []) ok_X15_isProduct rfl q_cn ?_
  obtain ⟨r21, hr21, hf⟩ := q_bd hf
  refine q_kV (M2 := m_X15_isValue) (As := []) (b := 492) (v2 := some (.int (q_bz r21.1))) ok_X15_isProduct ok_X15_isValue cv_X15_isValue (ct_X15_isValue_492 hq_isValue hq_isSum hr21) rfl rfl (Or.inl rfl) rfl rfl rfl rfl (by omega) (Nat.le_of_ble_eq_true rfl) (Nat.le_of_ble_eq_true rfl) (Nat.le_of_ble_eq_true rfl) (fun x hx => absurd hx List.not_mem_nil) (q_nmL0 _) (q_nmS0 _) rfl (pos' := 2) (st' := [.int (q_bz r21.1)]) (lI' := [(492, r21.2.1), (497, r21.2.2.1), (529, r21.2.2.2.1), (537, r21.2.2.2.2.1), (538, r21.2.2.2.2.2)]) (lE' := []) rfl rfl rfl rfl ?_
  refine q_blf 0 [] (a := q_kc (t, r, 0, 529, 539, (q_pE ext), (q_pR rx), L) I E 5 [some (.ref 492), none] [] [(492, r21.2.1), (497, r21.2.2.1), (529, r21.2.2.2.1), (537, r21.2.2.2.2.1), (538, r21.2.2.2.2.2)] []) (b := q_kc (t, r, 0, 529, 539, (q_pE ext), (q_pR rx), L) I E 3 [some (.ref 492), none] [] [(492, r21.2.1), (497, r21.2.2.1), (529, r21.2.2.2.1), (537, r21.2.2.2.2.1), (538, r21.2.2.2.2.2)] []) (P := ¬ (q_bz r21.1) = 0) ok_X15_isProduct rfl q_cn (fun h22 => ?_) (fun h22 => ?_)
  · have hf := q_ip h22 hf
    obtain ⟨r23, hr23, hf⟩ := q_bd hf
    refine lp_X15_isProduct_L5_492 (I := q_ws I [(492, r21.2.1), (497, r21.2.2.1), (529, r21.2.2.2.1), (537, r21.2.2.2.2.1), (538, r21.2.2.2.2.2)]) (E := q_ws E []) (Nat.le_of_ble_eq_true rfl) (Nat.le_of_ble_eq_true rfl) hq_isValue hq_isSum 4096 hr23 ?_ ?_
    · intro hz0
      have hf := q_ip hz0 hf
      refine q_Jmrg (lI' := [(492, r23.2.1), (497, r23.2.2.1), (529, r23.2.2.2.1), (537, r23.2.2.2.2.1), (538, r23.2.2.2.2.2)]) (lE' := []) rfl rfl ?_
      refine q_blk 1 [] (c' := q_kc (t, r, 0, 529, 539, (q_pE ext), (q_pR rx), L) I E 37 [none, none] [.int (1 : Int32)] [(492, r23.2.1), (497, r23.2.2.1), (529, r23.2.2.2.1), (537, r23.2.2.2.2.1), (538, r23.2.2.2.2.2)] []) ok_X15_isProduct rfl q_cn ?_
      cases hf
      exact q_kri ok_X15_isProduct rfl rfl rfl (Nat.le_of_ble_eq_true rfl) (Nat.le_of_ble_eq_true rfl) ⟨rfl, q_hpe (q_fin [492, 497, 529, 537, 538] rfl) (q_fin [] rfl)⟩
    · intro hz1
      have hf := q_in (fun h9 => absurd (hz1.symm.trans h9) (by decide)) hf
      refine q_Jmrg (lI' := [(492, r23.2.1), (497, r23.2.2.1), (529, r23.2.2.2.1), (537, r23.2.2.2.2.1), (538, r23.2.2.2.2.2)]) (lE' := []) rfl rfl ?_
      refine q_blk 1 [] (c' := q_kc (t, r, 0, 529, 539, (q_pE ext), (q_pR rx), L) I E 31 [none, none] [.int (0 : Int32)] [(492, r23.2.1), (497, r23.2.2.1), (529, r23.2.2.2.1), (537, r23.2.2.2.2.1), (538, r23.2.2.2.2.2)] []) ok_X15_isProduct rfl q_cn ?_
      cases hf
      exact q_kri ok_X15_isProduct rfl rfl rfl (Nat.le_of_ble_eq_true rfl) (Nat.le_of_ble_eq_true rfl) ⟨rfl, q_hpe (q_fin [492, 497, 529, 537, 538] rfl) (q_fin [] rfl)⟩
  · have hf := q_in h22 hf
    refine q_blk 1 [] (c' := q_kc (t, r, 0, 529, 539, (q_pE ext), (q_pR rx), L) I E 4 [some (.ref 492), none] [.int (0 : Int32)] [(492, r21.2.1), (497, r21.2.2.1), (529, r21.2.2.2.1), (537, r21.2.2.2.2.1), (538, r21.2.2.2.2.2)] []) ok_X15_isProduct rfl q_cn ?_
    cases hf
    exact q_kri ok_X15_isProduct rfl rfl rfl (Nat.le_of_ble_eq_true rfl) (Nat.le_of_ble_eq_true rfl) ⟨rfl, q_hpe (q_fin [492, 497, 529, 537, 538] rfl) (q_fin [] rfl)⟩
set_option maxHeartbeats 4000000 in
theorem lp_X15_isSum_L5_492 {g : q_G} {dR mc ms : Nat} {h0 : q_H} {Q : (Option Value ⊕ String) → q_H → Prop} {k n : Nat} {t : Nat} {r : Nat} {ext : Nat → q_Sh} {rx : Nat → Nat → Option Nat} {L : Nat → Nat → Int64} (hk : k ≤ mc) (hn : n ≤ ms)  {r_isValue : (Nat → Int32) → (Nat → Int32) → (Nat → Int32) → (Nat → Int32) → (Nat → Int32) → (Nat → Int32) → (Nat → Int32) → (Nat → Int32) → (Nat → Int32) → Option (Bool × (Nat → Int32) × (Nat → Int32) × (Nat → Int32) × (Nat → Int32) × (Nat → Int32))} (hq_isValue : ∀ {I : Nat → Nat → Int32} {E : Nat → Nat → Option Nat} {r0 : Bool × (Nat → Int32) × (Nat → Int32) × (Nat → Int32) × (Nat → Int32) × (Nat → Int32)}, r_isValue ((I 492)) ((I 493)) ((I 494)) ((I 495)) ((I 496)) ((I 497)) ((I 529)) ((I 537)) ((I 538)) = some r0 → q_Ct g m_X15_isValue dR 0 0 [] [.ref 492] (q_hp (t, r, 0, 529, 539, (q_pE ext), (q_pR rx), L) I E) (fun o h' => o = .inl (some (.int (q_bz r0.1))) ∧ h' = q_hp (t, r, 0, 529, 539, (q_pE ext), (q_pR rx), L) (q_ws I [(492, r0.2.1), (497, r0.2.2.1), (529, r0.2.2.2.1), (537, r0.2.2.2.2.1), (538, r0.2.2.2.2.2)]) (q_ws E []))) {r_isSum : (Nat → Int32) → (Nat → Int32) → (Nat → Int32) → (Nat → Int32) → (Nat → Int32) → (Nat → Int32) → (Nat → Int32) → (Nat → Int32) → (Nat → Int32) → Option (Bool × (Nat → Int32) × (Nat → Int32) × (Nat → Int32) × (Nat → Int32) × (Nat → Int32))} (hq_isSum : ∀ {I : Nat → Nat → Int32} {E : Nat → Nat → Option Nat} {r0 : Bool × (Nat → Int32) × (Nat → Int32) × (Nat → Int32) × (Nat → Int32) × (Nat → Int32)}, r_isSum ((I 492)) ((I 493)) ((I 494)) ((I 495)) ((I 496)) ((I 497)) ((I 529)) ((I 537)) ((I 538)) = some r0 → q_Ct g m_X15_isSum dR 0 0 [] [.ref 492] (q_hp (t, r, 0, 529, 539, (q_pE ext), (q_pR rx), L) I E) (fun o h' => o = .inl (some (.int (q_bz r0.1))) ∧ h' = q_hp (t, r, 0, 529, 539, (q_pE ext), (q_pR rx), L) (q_ws I [(492, r0.2.1), (497, r0.2.2.1), (529, r0.2.2.2.1), (537, r0.2.2.2.2.1), (538, r0.2.2.2.2.2)]) (q_ws E []))) : ∀ (fu : Nat) {I : Nat → Nat → Int32} {E : Nat → Nat → Option Nat} {r0 : Nat × (Nat → Int32) × (Nat → Int32) × (Nat → Int32) × (Nat → Int32) × (Nat → Int32)} (hf : f_X15_isSum_L5 r_isValue r_isSum (I 493) (I 494) (I 495) (I 496) fu (I 492) (I 497) (I 529) (I 537) (I 538) = some r0) (hK0 : r0.1 = 0 → q_J g m_X15_isSum (dR + 7) mc ms h0 [] Q k n (q_kc (t, r, 0, 529, 539, (q_pE ext), (q_pR rx), L) I E 36 [none, none] [] [(492, r0.2.1), (497, r0.2.2.1), (529, r0.2.2.2.1), (537, r0.2.2.2.2.1), (538, r0.2.2.2.2.2)] [])) (hK1 : r0.1 = 1 → q_J g m_X15_isSum (dR + 7) mc ms h0 [] Q k n (q_kc (t, r, 0, 529, 539, (q_pE ext), (q_pR rx), L) I E 30 [none, none] [] [(492, r0.2.1), (497, r0.2.2.1), (529, r0.2.2.2.1), (537, r0.2.2.2.2.1), (538, r0.2.2.2.2.2)] [])), q_J g m_X15_isSum (dR + 7) mc ms h0 [] Q k n (5, [some (.ref 492), none], [], q_hp (t, r, 0, 529, 539, (q_pE ext), (q_pR rx), L) I E) := by
  intro fu
  induction fu with
  | zero =>
    intro I E r0 hf hK0 hK1
    rw [f_X15_isSum_L5] at hf
    cases hf
  | succ fu ih =>
    intro I E r0 hf hK0 hK1
    rw [f_X15_isSum_L5] at hf
    change q_J g m_X15_isSum (dR + 7) mc ms h0 [] Q k n (q_kc (t, r, 0, 529, 539, (q_pE ext), (q_pR rx), L) I E 5 [some (.ref 492), none] [] [] [])
    refine q_blk 2 [] (c' := q_kc (t, r, 0, 529, 539, (q_pE ext), (q_pR rx), L) I E 7 [some (.ref 492), none] [.int (43 : Int32), .ref 492] [] []) ok_X15_isSum rfl q_cn ?_
    obtain ⟨r1, hr1, hf⟩ := q_bd hf
    refine q_kV (M2 := m_X15_isSign) (As := [.int (43 : Int32)]) (b := 492) (v2 := some (.int (q_bz r1))) ok_X15_isSum ok_X15_isSign cv_X15_isSign (ct_X15_isSign_492 (d := 1) (Nat.le_refl _) hr1) rfl rfl (Or.inl rfl) rfl rfl rfl rfl (by omega) hk hn (Nat.le_of_ble_eq_true rfl) (fun x hx => absurd hx List.not_mem_nil) (q_nmL0 _) (q_nmS0 _) rfl (pos' := 8) (st' := [.int (q_bz r1)]) (lI' := []) (lE' := []) rfl rfl rfl rfl ?_
    refine q_blf 0 [] (a := q_kc (t, r, 0, 529, 539, (q_pE ext), (q_pR rx), L) I E 13 [some (.ref 492), none] [] [] []) (b := q_kc (t, r, 0, 529, 539, (q_pE ext), (q_pR rx), L) I E 9 [some (.ref 492), none] [] [] []) (P := ¬ (q_bz r1) = 0) ok_X15_isSum rfl q_cn (fun h2 => ?_) (fun h2 => ?_)
    · have hf := q_ip h2 hf
      refine q_blk 2 [] (c' := q_kc (t, r, 0, 529, 539, (q_pE ext), (q_pR rx), L) I E 15 [some (.ref 492), none] [.int (43 : Int32), .ref 492] [] []) ok_X15_isSum rfl q_cn ?_
      obtain ⟨r3, hr3, hf⟩ := q_bd hf
      refine q_kV (M2 := m_X15_isSign) (As := [.int (43 : Int32)]) (b := 492) (v2 := some (.int (q_bz r3))) ok_X15_isSum ok_X15_isSign cv_X15_isSign (ct_X15_isSign_492 (d := 1) (Nat.le_refl _) hr3) rfl rfl (Or.inl rfl) rfl rfl rfl rfl (by omega) hk hn (Nat.le_of_ble_eq_true rfl) (fun x hx => absurd hx List.not_mem_nil) (q_nmL0 _) (q_nmS0 _) rfl (pos' := 16) (st' := [.int (q_bz r3)]) (lI' := []) (lE' := []) rfl rfl rfl rfl ?_
      refine q_blf 0 [] (a := q_kc (t, r, 0, 529, 539, (q_pE ext), (q_pR rx), L) I E 19 [some (.ref 492), none] [] [] []) (b := q_kc (t, r, 0, 529, 539, (q_pE ext), (q_pR rx), L) I E 17 [some (.ref 492), none] [] [] []) (P := (q_bz r3) = 0) ok_X15_isSum rfl q_cn (fun h4 => ?_) (fun h4 => ?_)
      · have hf := q_ip h4 hf
        refine q_blk 9 [] (c' := q_kc (t, r, 0, 529, 539, (q_pE ext), (q_pR rx), L) I E 28 [some (.ref 492), some (.int (35 : Int32))] [.ref 492] [(492, (q_up (I 492) 9 (((I 492) 9) + (1 : Int32))))] []) ok_X15_isSum rfl q_cn ?_
        obtain ⟨r5, hr5, hf⟩ := q_bd hf
        refine q_kV (M2 := m_X15_isProduct) (As := []) (b := 492) (v2 := some (.int (q_bz r5.1))) ok_X15_isSum ok_X15_isProduct cv_X15_isProduct (ct_X15_isProduct_492 hq_isValue hq_isSum hr5) rfl rfl (Or.inl rfl) rfl rfl rfl rfl (by omega) hk hn (Nat.le_of_ble_eq_true rfl) (fun x hx => absurd hx List.not_mem_nil) (q_nmL0 _) (q_nmS0 _) rfl (pos' := 29) (st' := [.int (q_bz r5.1)]) (lI' := [(492, r5.2.1), (497, r5.2.2.1), (529, r5.2.2.2.1), (537, r5.2.2.2.2.1), (538, r5.2.2.2.2.2)]) (lE' := []) rfl rfl rfl rfl ?_
        refine q_blf 0 [] (a := q_kc (t, r, 0, 529, 539, (q_pE ext), (q_pR rx), L) I E 32 [some (.ref 492), some (.int (35 : Int32))] [] [(492, r5.2.1), (497, r5.2.2.1), (529, r5.2.2.2.1), (537, r5.2.2.2.2.1), (538, r5.2.2.2.2.2)] []) (b := q_kc (t, r, 0, 529, 539, (q_pE ext), (q_pR rx), L) I E 30 [some (.ref 492), some (.int (35 : Int32))] [] [(492, r5.2.1), (497, r5.2.2.1), (529, r5.2.2.2.1), (537, r5.2.2.2.2.1), (538, r5.2.2.2.2.2)] []) (P := ¬ (q_bz r5.1) = 0) ok_X15_isSum rfl q_cn (fun h6 => ?_) (fun h6 => ?_)
        · have hf := q_ip h6 hf
          refine q_blk 2 [] (c' := q_kc (t, r, 0, 529, 539, (q_pE ext), (q_pR rx), L) I E 34 [some (.ref 492), some (.int (35 : Int32))] [.int (35 : Int32), .ref 492] [(492, r5.2.1), (497, r5.2.2.1), (529, r5.2.2.2.1), (537, r5.2.2.2.2.1), (538, r5.2.2.2.2.2)] []) ok_X15_isSum rfl q_cn ?_
          obtain ⟨r7, hr7, hf⟩ := q_bd hf
          refine q_kV (M2 := m_X15_put) (As := [.int (35 : Int32)]) (b := 492) (v2 := none) ok_X15_isSum ok_X15_put cv_X15_put (ct_X15_put_492 (d := 1) (Nat.le_refl _) hr7) rfl rfl (Or.inl rfl) rfl rfl rfl rfl (by omega) hk hn (Nat.le_of_ble_eq_true rfl) (fun x hx => absurd hx List.not_mem_nil) (q_nmL0 _) (q_nmS0 _) rfl (pos' := 35) (st' := []) (lI' := [(492, r5.2.1), (497, r5.2.2.1), (529, r7.1), (537, r7.2), (538, r5.2.2.2.2.2)]) (lE' := []) rfl rfl rfl rfl ?_
          refine q_blk 1 [] (c' := q_kc (t, r, 0, 529, 539, (q_pE ext), (q_pR rx), L) I E 5 [some (.ref 492), some (.int (35 : Int32))] [] [(492, r5.2.1), (497, r5.2.2.1), (529, r7.1), (537, r7.2), (538, r5.2.2.2.2.2)] []) ok_X15_isSum rfl q_cn ?_
          refine q_less (ls' := [some (.ref 492), none]) (q_sb2 (q_sb1 q_sb0)) ?_
          exact ih (I := q_ws I [(492, r5.2.1), (497, r5.2.2.1), (529, r7.1), (537, r7.2), (538, r5.2.2.2.2.2)]) (E := q_ws E []) hf (fun hz => q_Jmrg rfl rfl (hK0 hz)) (fun hz => q_Jmrg rfl rfl (hK1 hz))
        · have hf := q_in h6 hf
          refine q_less (ls' := [none, none]) (q_sb1 (q_sb1 q_sb0)) ?_
          cases hf
          exact q_Jpad [492, 497, 529, 537, 538] [] rfl rfl (hK1 rfl)
      · have hf := q_in h4 hf
        refine q_blk 10 [] (c' := q_kc (t, r, 0, 529, 539, (q_pE ext), (q_pR rx), L) I E 28 [some (.ref 492), some (.int (34 : Int32))] [.ref 492] [(492, (q_up (I 492) 9 (((I 492) 9) + (1 : Int32))))] []) ok_X15_isSum rfl q_cn ?_
        obtain ⟨r8, hr8, hf⟩ := q_bd hf
        refine q_kV (M2 := m_X15_isProduct) (As := []) (b := 492) (v2 := some (.int (q_bz r8.1))) ok_X15_isSum ok_X15_isProduct cv_X15_isProduct (ct_X15_isProduct_492 hq_isValue hq_isSum hr8) rfl rfl (Or.inl rfl) rfl rfl rfl rfl (by omega) hk hn (Nat.le_of_ble_eq_true rfl) (fun x hx => absurd hx List.not_mem_nil) (q_nmL0 _) (q_nmS0 _) rfl (pos' := 29) (st' := [.int (q_bz r8.1)]) (lI' := [(492, r8.2.1), (497, r8.2.2.1), (529, r8.2.2.2.1), (537, r8.2.2.2.2.1), (538, r8.2.2.2.2.2)]) (lE' := []) rfl rfl rfl rfl ?_
        refine q_blf 0 [] (a := q_kc (t, r, 0, 529, 539, (q_pE ext), (q_pR rx), L) I E 32 [some (.ref 492), some (.int (34 : Int32))] [] [(492, r8.2.1), (497, r8.2.2.1), (529, r8.2.2.2.1), (537, r8.2.2.2.2.1), (538, r8.2.2.2.2.2)] []) (b := q_kc (t, r, 0, 529, 539, (q_pE ext), (q_pR rx), L) I E 30 [some (.ref 492), some (.int (34 : Int32))] [] [(492, r8.2.1), (497, r8.2.2.1), (529, r8.2.2.2.1), (537, r8.2.2.2.2.1), (538, r8.2.2.2.2.2)] []) (P := ¬ (q_bz r8.1) = 0) ok_X15_isSum rfl q_cn (fun h9 => ?_) (fun h9 => ?_)
        · have hf := q_ip h9 hf
          refine q_blk 2 [] (c' := q_kc (t, r, 0, 529, 539, (q_pE ext), (q_pR rx), L) I E 34 [some (.ref 492), some (.int (34 : Int32))] [.int (34 : Int32), .ref 492] [(492, r8.2.1), (497, r8.2.2.1), (529, r8.2.2.2.1), (537, r8.2.2.2.2.1), (538, r8.2.2.2.2.2)] []) ok_X15_isSum rfl q_cn ?_
          obtain ⟨r10, hr10, hf⟩ := q_bd hf
          refine q_kV (M2 := m_X15_put) (As := [.int (34 : Int32)]) (b := 492) (v2 := none) ok_X15_isSum ok_X15_put cv_X15_put (ct_X15_put_492 (d := 1) (Nat.le_refl _) hr10) rfl rfl (Or.inl rfl) rfl rfl rfl rfl (by omega) hk hn (Nat.le_of_ble_eq_true rfl) (fun x hx => absurd hx List.not_mem_nil) (q_nmL0 _) (q_nmS0 _) rfl (pos' := 35) (st' := []) (lI' := [(492, r8.2.1), (497, r8.2.2.1), (529, r10.1), (537, r10.2), (538, r8.2.2.2.2.2)]) (lE' := []) rfl rfl rfl rfl ?_
          refine q_blk 1 [] (c' := q_kc (t, r, 0, 529, 539, (q_pE ext), (q_pR rx), L) I E 5 [some (.ref 492), some (.int (34 : Int32))] [] [(492, r8.2.1), (497, r8.2.2.1), (529, r10.1), (537, r10.2), (538, r8.2.2.2.2.2)] []) ok_X15_isSum rfl q_cn ?_
          refine q_less (ls' := [some (.ref 492), none]) (q_sb2 (q_sb1 q_sb0)) ?_
          exact ih (I := q_ws I [(492, r8.2.1), (497, r8.2.2.1), (529, r10.1), (537, r10.2), (538, r8.2.2.2.2.2)]) (E := q_ws E []) hf (fun hz => q_Jmrg rfl rfl (hK0 hz)) (fun hz => q_Jmrg rfl rfl (hK1 hz))
        · have hf := q_in h9 hf
          refine q_less (ls' := [none, none]) (q_sb1 (q_sb1 q_sb0)) ?_
          cases hf
          exact q_Jpad [492, 497, 529, 537, 538] [] rfl rfl (hK1 rfl)
    · have hf := q_in h2 hf
      refine q_blk 2 [] (c' := q_kc (t, r, 0, 529, 539, (q_pE ext), (q_pR rx), L) I E 11 [some (.ref 492), none] [.int (45 : Int32), .ref 492] [] []) ok_X15_isSum rfl q_cn ?_
      obtain ⟨r11, hr11, hf⟩ := q_bd hf
      refine q_kV (M2 := m_X15_isSign) (As := [.int (45 : Int32)]) (b := 492) (v2 := some (.int (q_bz r11))) ok_X15_isSum ok_X15_isSign cv_X15_isSign (ct_X15_isSign_492 (d := 1) (Nat.le_refl _) hr11) rfl rfl (Or.inl rfl) rfl rfl rfl rfl (by omega) hk hn (Nat.le_of_ble_eq_true rfl) (fun x hx => absurd hx List.not_mem_nil) (q_nmL0 _) (q_nmS0 _) rfl (pos' := 12) (st' := [.int (q_bz r11)]) (lI' := []) (lE' := []) rfl rfl rfl rfl ?_
      refine q_blf 0 [] (a := q_kc (t, r, 0, 529, 539, (q_pE ext), (q_pR rx), L) I E 36 [some (.ref 492), none] [] [] []) (b := q_kc (t, r, 0, 529, 539, (q_pE ext), (q_pR rx), L) I E 13 [some (.ref 492), none] [] [] []) (P := (q_bz r11) = 0) ok_X15_isSum rfl q_cn (fun h12 => ?_) (fun h12 => ?_)
      · have hf := q_ip h12 hf
        refine q_less (ls' := [none, none]) (q_sb1 (q_sb1 q_sb0)) ?_
        cases hf
        exact q_Jpad [492, 497, 529, 537, 538] [] rfl rfl (hK0 rfl)
      · have hf := q_in h12 hf
        refine q_blk 2 [] (c' := q_kc (t, r, 0, 529, 539, (q_pE ext), (q_pR rx), L) I E 15 [some (.ref 492), none] [.int (43 : Int32), .ref 492] [] []) ok_X15_isSum rfl q_cn ?_
        obtain ⟨r13, hr13, hf⟩ := q_bd hf
        refine q_kV (M2 := m_X15_isSign) (As := [.int (43 : Int32)]) (b := 492) (v2 := some (.int (q_bz r13))) ok_X15_isSum ok_X15_isSign cv_X15_isSign (ct_X15_isSign_492 (d := 1) (Nat.le_refl _) hr13) rfl rfl (Or.inl rfl) rfl rfl rfl rfl (by omega) hk hn (Nat.le_of_ble_eq_true rfl) (fun x hx => absurd hx List.not_mem_nil) (q_nmL0 _) (q_nmS0 _) rfl (pos' := 16) (st' := [.int (q_bz r13)]) (lI' := []) (lE' := []) rfl rfl rfl rfl ?_
        refine q_blf 0 [] (a := q_kc (t, r, 0, 529, 539, (q_pE ext), (q_pR rx), L) I E 19 [some (.ref 492), none] [] [] []) (b := q_kc (t, r, 0, 529, 539, (q_pE ext), (q_pR rx), L) I E 17 [some (.ref 492), none] [] [] []) (P := (q_bz r13) = 0) ok_X15_isSum rfl q_cn (fun h14 => ?_) (fun h14 => ?_)
        · have hf := q_ip h14 hf
          refine q_blk 9 [] (c' := q_kc (t, r, 0, 529, 539, (q_pE ext), (q_pR rx), L) I E 28 [some (.ref 492), some (.int (35 : Int32))] [.ref 492] [(492, (q_up (I 492) 9 (((I 492) 9) + (1 : Int32))))] []) ok_X15_isSum rfl q_cn ?_
          obtain ⟨r15, hr15, hf⟩ := q_bd hf
          refine q_kV (M2 := m_X15_isProduct) (As := []) (b := 492) (v2 := some (.int (q_bz r15.1))) ok_X15_isSum ok_X15_isProduct cv_X15_isProduct (ct_X15_isProduct_492 hq_isValue hq_isSum hr15) rfl rfl (Or.inl rfl) rfl rfl rfl rfl (by omega) hk hn (Nat.le_of_ble_eq_true rfl) (fun x hx => absurd hx List.not_mem_nil) (q_nmL0 _) (q_nmS0 _) rfl (pos' := 29) (st' := [.int (q_bz r15.1)]) (lI' := [(492, r15.2.1), (497, r15.2.2.1), (529, r15.2.2.2.1), (537, r15.2.2.2.2.1), (538, r15.2.2.2.2.2)]) (lE' := []) rfl rfl rfl rfl ?_
          refine q_blf 0 [] (a := q_kc (t, r, 0, 529, 539, (q_pE ext), (q_pR rx), L) I E 32 [some (.ref 492), some (.int (35 : Int32))] [] [(492, r15.2.1), (497, r15.2.2.1), (529, r15.2.2.2.1), (537, r15.2.2.2.2.1), (538, r15.2.2.2.2.2)] []) (b := q_kc (t, r, 0, 529, 539, (q_pE ext), (q_pR rx), L) I E 30 [some (.ref 492), some (.int (35 : Int32))] [] [(492, r15.2.1), (497, r15.2.2.1), (529, r15.2.2.2.1), (537, r15.2.2.2.2.1), (538, r15.2.2.2.2.2)] []) (P := ¬ (q_bz r15.1) = 0) ok_X15_isSum rfl q_cn (fun h16 => ?_) (fun h16 => ?_)
          · have hf := q_ip h16 hf
            refine q_blk 2 [] (c' := q_kc (t, r, 0, 529, 539, (q_pE ext), (q_pR rx), L) I E 34 [some (.ref 492), some (.int (35 : Int32))] [.int (35 : Int32), .ref 492] [(492, r15.2.1), (497, r15.2.2.1), (529, r15.2.2.2.1), (537, r15.2.2.2.2.1), (538, r15.2.2.2.2.2)] []) ok_X15_isSum rfl q_cn ?_
            obtain ⟨r17, hr17, hf⟩ := q_bd hf
            refine q_kV (M2 := m_X15_put) (As := [.int (35 : Int32)]) (b := 492) (v2 := none) ok_X15_isSum ok_X15_put cv_X15_put (ct_X15_put_492 (d := 1) (Nat.le_refl _) hr17) rfl rfl (Or.inl rfl) rfl rfl rfl rfl (by omega) hk hn (Nat.le_of_ble_eq_true rfl) (fun x hx => absurd hx List.not_mem_nil) (q_nmL0 _) (q_nmS0 _) rfl (pos' := 35) (st' := []) (lI' := [(492, r15.2.1), (497, r15.2.2.1), (529, r17.1), (537, r17.2), (538, r15.2.2.2.2.2)]) (lE' := []) rfl rfl rfl rfl ?_
            refine q_blk 1 [] (c' := q_kc (t, r, 0, 529, 539, (q_pE ext), (q_pR rx), L) I E 5 [some (.ref 492), some (.int (35 : Int32))] [] [(492, r15.2.1), (497, r15.2.2.1), (529, r17.1), (537, r17.2), (538, r15.2.2.2.2.2)] []) ok_X15_isSum rfl q_cn ?_
            refine q_less (ls' := [some (.ref 492), none]) (q_sb2 (q_sb1 q_sb0)) ?_
            exact ih (I := q_ws I [(492, r15.2.1), (497, r15.2.2.1), (529, r17.1), (537, r17.2), (538, r15.2.2.2.2.2)]) (E := q_ws E []) hf (fun hz => q_Jmrg rfl rfl (hK0 hz)) (fun hz => q_Jmrg rfl rfl (hK1 hz))
          · have hf := q_in h16 hf
            refine q_less (ls' := [none, none]) (q_sb1 (q_sb1 q_sb0)) ?_
            cases hf
            exact q_Jpad [492, 497, 529, 537, 538] [] rfl rfl (hK1 rfl)
        · have hf := q_in h14 hf
          refine q_blk 10 [] (c' := q_kc (t, r, 0, 529, 539, (q_pE ext), (q_pR rx), L) I E 28 [some (.ref 492), some (.int (34 : Int32))] [.ref 492] [(492, (q_up (I 492) 9 (((I 492) 9) + (1 : Int32))))] []) ok_X15_isSum rfl q_cn ?_
          obtain ⟨r18, hr18, hf⟩ := q_bd hf
          refine q_kV (M2 := m_X15_isProduct) (As := []) (b := 492) (v2 := some (.int (q_bz r18.1))) ok_X15_isSum ok_X15_isProduct cv_X15_isProduct (ct_X15_isProduct_492 hq_isValue hq_isSum hr18) rfl rfl (Or.inl rfl) rfl rfl rfl rfl (by omega) hk hn (Nat.le_of_ble_eq_true rfl) (fun x hx => absurd hx List.not_mem_nil) (q_nmL0 _) (q_nmS0 _) rfl (pos' := 29) (st' := [.int (q_bz r18.1)]) (lI' := [(492, r18.2.1), (497, r18.2.2.1), (529, r18.2.2.2.1), (537, r18.2.2.2.2.1), (538, r18.2.2.2.2.2)]) (lE' := []) rfl rfl rfl rfl ?_
          refine q_blf 0 [] (a := q_kc (t, r, 0, 529, 539, (q_pE ext), (q_pR rx), L) I E 32 [some (.ref 492), some (.int (34 : Int32))] [] [(492, r18.2.1), (497, r18.2.2.1), (529, r18.2.2.2.1), (537, r18.2.2.2.2.1), (538, r18.2.2.2.2.2)] []) (b := q_kc (t, r, 0, 529, 539, (q_pE ext), (q_pR rx), L) I E 30 [some (.ref 492), some (.int (34 : Int32))] [] [(492, r18.2.1), (497, r18.2.2.1), (529, r18.2.2.2.1), (537, r18.2.2.2.2.1), (538, r18.2.2.2.2.2)] []) (P := ¬ (q_bz r18.1) = 0) ok_X15_isSum rfl q_cn (fun h19 => ?_) (fun h19 => ?_)
          · have hf := q_ip h19 hf
            refine q_blk 2 [] (c' := q_kc (t, r, 0, 529, 539, (q_pE ext), (q_pR rx), L) I E 34 [some (.ref 492), some (.int (34 : Int32))] [.int (34 : Int32), .ref 492] [(492, r18.2.1), (497, r18.2.2.1), (529, r18.2.2.2.1), (537, r18.2.2.2.2.1), (538, r18.2.2.2.2.2)] []) ok_X15_isSum rfl q_cn ?_
            obtain ⟨r20, hr20, hf⟩ := q_bd hf
            refine q_kV (M2 := m_X15_put) (As := [.int (34 : Int32)]) (b := 492) (v2 := none) ok_X15_isSum ok_X15_put cv_X15_put (ct_X15_put_492 (d := 1) (Nat.le_refl _) hr20) rfl rfl (Or.inl rfl) rfl rfl rfl rfl (by omega) hk hn (Nat.le_of_ble_eq_true rfl) (fun x hx => absurd hx List.not_mem_nil) (q_nmL0 _) (q_nmS0 _) rfl (pos' := 35) (st' := []) (lI' := [(492, r18.2.1), (497, r18.2.2.1), (529, r20.1), (537, r20.2), (538, r18.2.2.2.2.2)]) (lE' := []) rfl rfl rfl rfl ?_
            refine q_blk 1 [] (c' := q_kc (t, r, 0, 529, 539, (q_pE ext), (q_pR rx), L) I E 5 [some (.ref 492), some (.int (34 : Int32))] [] [(492, r18.2.1), (497, r18.2.2.1), (529, r20.1), (537, r20.2), (538, r18.2.2.2.2.2)] []) ok_X15_isSum rfl q_cn ?_
            refine q_less (ls' := [some (.ref 492), none]) (q_sb2 (q_sb1 q_sb0)) ?_
            exact ih (I := q_ws I [(492, r18.2.1), (497, r18.2.2.1), (529, r20.1), (537, r20.2), (538, r18.2.2.2.2.2)]) (E := q_ws E []) hf (fun hz => q_Jmrg rfl rfl (hK0 hz)) (fun hz => q_Jmrg rfl rfl (hK1 hz))
          · have hf := q_in h19 hf
            refine q_less (ls' := [none, none]) (q_sb1 (q_sb1 q_sb0)) ?_
            cases hf
            exact q_Jpad [492, 497, 529, 537, 538] [] rfl rfl (hK1 rfl)
set_option maxHeartbeats 4000000 in
theorem ct_X15_isSum_492 {g : q_G} {t : Nat} {r : Nat} {ext : Nat → q_Sh} {rx : Nat → Nat → Option Nat} {L : Nat → Nat → Int64} {dR : Nat}  {r_isValue : (Nat → Int32) → (Nat → Int32) → (Nat → Int32) → (Nat → Int32) → (Nat → Int32) → (Nat → Int32) → (Nat → Int32) → (Nat → Int32) → (Nat → Int32) → Option (Bool × (Nat → Int32) × (Nat → Int32) × (Nat → Int32) × (Nat → Int32) × (Nat → Int32))} (hq_isValue : ∀ {I : Nat → Nat → Int32} {E : Nat → Nat → Option Nat} {r0 : Bool × (Nat → Int32) × (Nat → Int32) × (Nat → Int32) × (Nat → Int32) × (Nat → Int32)}, r_isValue ((I 492)) ((I 493)) ((I 494)) ((I 495)) ((I 496)) ((I 497)) ((I 529)) ((I 537)) ((I 538)) = some r0 → q_Ct g m_X15_isValue dR 0 0 [] [.ref 492] (q_hp (t, r, 0, 529, 539, (q_pE ext), (q_pR rx), L) I E) (fun o h' => o = .inl (some (.int (q_bz r0.1))) ∧ h' = q_hp (t, r, 0, 529, 539, (q_pE ext), (q_pR rx), L) (q_ws I [(492, r0.2.1), (497, r0.2.2.1), (529, r0.2.2.2.1), (537, r0.2.2.2.2.1), (538, r0.2.2.2.2.2)]) (q_ws E []))) {r_isSum : (Nat → Int32) → (Nat → Int32) → (Nat → Int32) → (Nat → Int32) → (Nat → Int32) → (Nat → Int32) → (Nat → Int32) → (Nat → Int32) → (Nat → Int32) → Option (Bool × (Nat → Int32) × (Nat → Int32) × (Nat → Int32) × (Nat → Int32) × (Nat → Int32))} (hq_isSum : ∀ {I : Nat → Nat → Int32} {E : Nat → Nat → Option Nat} {r0 : Bool × (Nat → Int32) × (Nat → Int32) × (Nat → Int32) × (Nat → Int32) × (Nat → Int32)}, r_isSum ((I 492)) ((I 493)) ((I 494)) ((I 495)) ((I 496)) ((I 497)) ((I 529)) ((I 537)) ((I 538)) = some r0 → q_Ct g m_X15_isSum dR 0 0 [] [.ref 492] (q_hp (t, r, 0, 529, 539, (q_pE ext), (q_pR rx), L) I E) (fun o h' => o = .inl (some (.int (q_bz r0.1))) ∧ h' = q_hp (t, r, 0, 529, 539, (q_pE ext), (q_pR rx), L) (q_ws I [(492, r0.2.1), (497, r0.2.2.1), (529, r0.2.2.2.1), (537, r0.2.2.2.2.1), (538, r0.2.2.2.2.2)]) (q_ws E []))){I : Nat → Nat → Int32} {E : Nat → Nat → Option Nat} {r0 : Bool × (Nat → Int32) × (Nat → Int32) × (Nat → Int32) × (Nat → Int32) × (Nat → Int32)} (hf : f_X15_isSum r_isValue r_isSum (I 492) (I 493) (I 494) (I 495) (I 496) (I 497) (I 529) (I 537) (I 538) = some r0) : q_Ct g m_X15_isSum (dR + 7) 0 0 [] [.ref 492] (q_hp (t, r, 0, 529, 539, (q_pE ext), (q_pR rx), L) I E) (fun o h' => o = .inl (some (.int (q_bz r0.1))) ∧ h' = q_hp (t, r, 0, 529, 539, (q_pE ext), (q_pR rx), L) (q_ws I [(492, r0.2.1), (497, r0.2.2.1), (529, r0.2.2.2.1), (537, r0.2.2.2.2.1), (538, r0.2.2.2.2.2)]) (q_ws E [])) := by
  rw [f_X15_isSum] at hf
  refine q_Ct_of ok_X15_isSum (Nat.le_of_ble_eq_true rfl) ?_ _ rfl rfl
  change q_J g m_X15_isSum (dR + 7) 0 0 _ [] _ 0 0 (q_kc (t, r, 0, 529, 539, (q_pE ext), (q_pR rx), L) I E 0 [some (.ref 492), none] [] [] [])
  refine q_blk 1 [] (c' := q_kc (t, r, 0, 529, 539, (q_pE ext), (q_pR rx), L) I E 1 [some (.ref 492), none] [.ref 492] [] []) ok_X15_isSum rfl q_cn ?_
  obtain ⟨r21, hr21, hf⟩ := q_bd hf
  refine q_kV (M2 := m_X15_isProduct) (As := []) (b := 492) (v2 := some (.int (q_bz r21.1))) ok_X15_isSum ok_X15_isProduct cv_X15_isProduct (ct_X15_isProduct_492 hq_isValue hq_isSum hr21) rfl rfl (Or.inl rfl) rfl rfl rfl rfl (by omega) (Nat.le_of_ble_eq_true rfl) (Nat.le_of_ble_eq_true rfl) (Nat.le_of_ble_eq_true rfl) (fun x hx => absurd hx List.not_mem_nil) (q_nmL0 _) (q_nmS0 _) rfl (pos' := 2) (st' := [.int (q_bz r21.1)]) (lI' := [(492, r21.2.1), (497, r21.2.2.1), (529, r21.2.2.2.1), (537, r21.2.2.2.2.1), (538, r21.2.2.2.2.2)]) (lE' := []) rfl rfl rfl rfl ?_
  refine q_blf 0 [] (a := q_kc (t, r, 0, 529, 539, (q_pE ext), (q_pR rx), L) I E 5 [some (.ref 492), none] [] [(492, r21.2.1), (497, r21.2.2.1), (529, r21.2.2.2.1), (537, r21.2.2.2.2.1), (538, r21.2.2.2.2.2)] []) (b := q_kc (t, r, 0, 529, 539, (q_pE ext), (q_pR rx), L) I E 3 [some (.ref 492), none] [] [(492, r21.2.1), (497, r21.2.2.1), (529, r21.2.2.2.1), (537, r21.2.2.2.2.1), (538, r21.2.2.2.2.2)] []) (P := ¬ (q_bz r21.1) = 0) ok_X15_isSum rfl q_cn (fun h22 => ?_) (fun h22 => ?_)
  · have hf := q_ip h22 hf
    obtain ⟨r23, hr23, hf⟩ := q_bd hf
    refine lp_X15_isSum_L5_492 (I := q_ws I [(492, r21.2.1), (497, r21.2.2.1), (529, r21.2.2.2.1), (537, r21.2.2.2.2.1), (538, r21.2.2.2.2.2)]) (E := q_ws E []) (Nat.le_of_ble_eq_true rfl) (Nat.le_of_ble_eq_true rfl) hq_isValue hq_isSum 4096 hr23 ?_ ?_
    · intro hz0
      have hf := q_ip hz0 hf
      refine q_Jmrg (lI' := [(492, r23.2.1), (497, r23.2.2.1), (529, r23.2.2.2.1), (537, r23.2.2.2.2.1), (538, r23.2.2.2.2.2)]) (lE' := []) rfl rfl ?_
      refine q_blk 1 [] (c' := q_kc (t, r, 0, 529, 539, (q_pE ext), (q_pR rx), L) I E 37 [none, none] [.int (1 : Int32)] [(492, r23.2.1), (497, r23.2.2.1), (529, r23.2.2.2.1), (537, r23.2.2.2.2.1), (538, r23.2.2.2.2.2)] []) ok_X15_isSum rfl q_cn ?_
      cases hf
      exact q_kri ok_X15_isSum rfl rfl rfl (Nat.le_of_ble_eq_true rfl) (Nat.le_of_ble_eq_true rfl) ⟨rfl, q_hpe (q_fin [492, 497, 529, 537, 538] rfl) (q_fin [] rfl)⟩
    · intro hz1
      have hf := q_in (fun h9 => absurd (hz1.symm.trans h9) (by decide)) hf
      refine q_Jmrg (lI' := [(492, r23.2.1), (497, r23.2.2.1), (529, r23.2.2.2.1), (537, r23.2.2.2.2.1), (538, r23.2.2.2.2.2)]) (lE' := []) rfl rfl ?_
      refine q_blk 1 [] (c' := q_kc (t, r, 0, 529, 539, (q_pE ext), (q_pR rx), L) I E 31 [none, none] [.int (0 : Int32)] [(492, r23.2.1), (497, r23.2.2.1), (529, r23.2.2.2.1), (537, r23.2.2.2.2.1), (538, r23.2.2.2.2.2)] []) ok_X15_isSum rfl q_cn ?_
      cases hf
      exact q_kri ok_X15_isSum rfl rfl rfl (Nat.le_of_ble_eq_true rfl) (Nat.le_of_ble_eq_true rfl) ⟨rfl, q_hpe (q_fin [492, 497, 529, 537, 538] rfl) (q_fin [] rfl)⟩
  · have hf := q_in h22 hf
    refine q_blk 1 [] (c' := q_kc (t, r, 0, 529, 539, (q_pE ext), (q_pR rx), L) I E 4 [some (.ref 492), none] [.int (0 : Int32)] [(492, r21.2.1), (497, r21.2.2.1), (529, r21.2.2.2.1), (537, r21.2.2.2.2.1), (538, r21.2.2.2.2.2)] []) ok_X15_isSum rfl q_cn ?_
    cases hf
    exact q_kri ok_X15_isSum rfl rfl rfl (Nat.le_of_ble_eq_true rfl) (Nat.le_of_ble_eq_true rfl) ⟨rfl, q_hpe (q_fin [492, 497, 529, 537, 538] rfl) (q_fin [] rfl)⟩
set_option maxHeartbeats 4000000 in
theorem ct_X15_isRope_492 {g : q_G} {t : Nat} {r : Nat} {ext : Nat → q_Sh} {rx : Nat → Nat → Option Nat} {L : Nat → Nat → Int64} {d : Nat} (hd : 4 ≤ d)  {I : Nat → Nat → Int32} {E : Nat → Nat → Option Nat} {r0 : Bool × (Nat → Int32) × (Nat → Int32)} (hf : f_X15_isRope (I 492) (I 494) (I 497) = some r0) : q_Ct g m_X15_isRope d 0 0 [] [.ref 492] (q_hp (t, r, 0, 529, 539, (q_pE ext), (q_pR rx), L) I E) (fun o h' => o = .inl (some (.int (q_bz r0.1))) ∧ h' = q_hp (t, r, 0, 529, 539, (q_pE ext), (q_pR rx), L) (q_ws I [(492, r0.2.1), (497, r0.2.2)]) (q_ws E [])) := by
  rw [f_X15_isRope] at hf
  refine q_Ct_of ok_X15_isRope (Nat.le_of_ble_eq_true rfl) ?_ _ rfl rfl
  change q_J g m_X15_isRope d 0 0 _ [] _ 0 0 (q_kc (t, r, 0, 529, 539, (q_pE ext), (q_pR rx), L) I E 0 [some (.ref 492)] [] [] [])
  refine q_blk 2 [] (c' := q_kc (t, r, 0, 529, 539, (q_pE ext), (q_pR rx), L) I E 2 [some (.ref 492)] [.int (8 : Int32), .ref 492] [] []) ok_X15_isRope rfl q_cn ?_
  obtain ⟨r1, hr1, hf⟩ := q_bd hf
  refine q_kV (M2 := m_X15_eat) (As := [.int (8 : Int32)]) (b := 492) (v2 := some (.int (q_bz r1.1))) ok_X15_isRope ok_X15_eat cv_X15_eat (ct_X15_eat_492 (d := 2) (Nat.le_refl _) hr1) rfl rfl (Or.inl rfl) rfl rfl rfl rfl (Nat.le_trans (Nat.le_of_ble_eq_true rfl) hd) (Nat.le_of_ble_eq_true rfl) (Nat.le_of_ble_eq_true rfl) (Nat.le_of_ble_eq_true rfl) (fun x hx => absurd hx List.not_mem_nil) (q_nmL0 _) (q_nmS0 _) rfl (pos' := 3) (st' := [.int (q_bz r1.1)]) (lI' := [(492, r1.2)]) (lE' := []) rfl rfl rfl rfl ?_
  refine q_blf 0 [] (a := q_kc (t, r, 0, 529, 539, (q_pE ext), (q_pR rx), L) I E 11 [some (.ref 492)] [] [(492, r1.2)] []) (b := q_kc (t, r, 0, 529, 539, (q_pE ext), (q_pR rx), L) I E 4 [some (.ref 492)] [] [(492, r1.2)] []) (P := (q_bz r1.1) = 0) ok_X15_isRope rfl q_cn (fun h2 => ?_) (fun h2 => ?_)
  · have hf := q_ip h2 hf
    refine q_blk 1 [] (c' := q_kc (t, r, 0, 529, 539, (q_pE ext), (q_pR rx), L) I E 12 [some (.ref 492)] [.int (0 : Int32)] [(492, r1.2)] []) ok_X15_isRope rfl q_cn ?_
    cases hf
    exact q_kri ok_X15_isRope rfl rfl rfl (Nat.le_of_ble_eq_true rfl) (Nat.le_of_ble_eq_true rfl) ⟨rfl, q_hpe (q_fin [492, 497] rfl) (q_fin [] rfl)⟩
  · have hf := q_in h2 hf
    refine q_blk 3 [] (c' := q_kc (t, r, 0, 529, 539, (q_pE ext), (q_pR rx), L) I E 7 [some (.ref 492)] [.int (9 : Int32), .int (41 : Int32), .ref 492] [(492, r1.2)] []) ok_X15_isRope rfl q_cn ?_
    obtain ⟨r3, hr3, hf⟩ := q_bd hf
    refine q_kV (M2 := m_X15_eatAs) (As := [.int (41 : Int32), .int (9 : Int32)]) (b := 492) (v2 := some (.int (q_bz r3.1))) ok_X15_isRope ok_X15_eatAs cv_X15_eatAs (ct_X15_eatAs_492 (d := 3) (Nat.le_refl _) hr3) rfl rfl (Or.inl rfl) rfl rfl rfl rfl (Nat.le_trans (Nat.le_of_ble_eq_true rfl) hd) (Nat.le_of_ble_eq_true rfl) (Nat.le_of_ble_eq_true rfl) (Nat.le_of_ble_eq_true rfl) (fun x hx => absurd hx List.not_mem_nil) (q_nmL0 _) (q_nmS0 _) rfl (pos' := 8) (st' := [.int (q_bz r3.1)]) (lI' := [(492, r3.2.1), (497, r3.2.2)]) (lE' := []) rfl rfl rfl rfl ?_
    refine q_blf 0 [] (a := q_kc (t, r, 0, 529, 539, (q_pE ext), (q_pR rx), L) I E 11 [some (.ref 492)] [] [(492, r3.2.1), (497, r3.2.2)] []) (b := q_kc (t, r, 0, 529, 539, (q_pE ext), (q_pR rx), L) I E 9 [some (.ref 492)] [] [(492, r3.2.1), (497, r3.2.2)] []) (P := (q_bz r3.1) = 0) ok_X15_isRope rfl q_cn (fun h4 => ?_) (fun h4 => ?_)
    · have hf := q_ip h4 hf
      refine q_blk 1 [] (c' := q_kc (t, r, 0, 529, 539, (q_pE ext), (q_pR rx), L) I E 12 [some (.ref 492)] [.int (0 : Int32)] [(492, r3.2.1), (497, r3.2.2)] []) ok_X15_isRope rfl q_cn ?_
      cases hf
      exact q_kri ok_X15_isRope rfl rfl rfl (Nat.le_of_ble_eq_true rfl) (Nat.le_of_ble_eq_true rfl) ⟨rfl, q_hpe (q_fin [492, 497] rfl) (q_fin [] rfl)⟩
    · have hf := q_in h4 hf
      refine q_blk 2 [] (c' := q_kc (t, r, 0, 529, 539, (q_pE ext), (q_pR rx), L) I E 12 [some (.ref 492)] [.int (1 : Int32)] [(492, r3.2.1), (497, r3.2.2)] []) ok_X15_isRope rfl q_cn ?_
      cases hf
      exact q_kri ok_X15_isRope rfl rfl rfl (Nat.le_of_ble_eq_true rfl) (Nat.le_of_ble_eq_true rfl) ⟨rfl, q_hpe (q_fin [492, 497] rfl) (q_fin [] rfl)⟩
set_option maxHeartbeats 4000000 in
theorem ct_X15_isRest_492 {g : q_G} {t : Nat} {r : Nat} {ext : Nat → q_Sh} {rx : Nat → Nat → Option Nat} {L : Nat → Nat → Int64} {d : Nat} (hd : 8 ≤ d)  {I : Nat → Nat → Int32} {E : Nat → Nat → Option Nat} {x1 : Int32} {r0 : Bool × (Nat → Int32) × (Nat → Int32) × (Nat → Int32) × (Nat → Int32) × (Nat → Int32)} (hf : f_X15_isRest (I 492) (I 493) (I 494) (I 495) (I 496) (I 497) (I 529) (I 537) (I 538) x1 = some r0) : q_Ct g m_X15_isRest d 0 0 [] [.ref 492, .int x1] (q_hp (t, r, 0, 529, 539, (q_pE ext), (q_pR rx), L) I E) (fun o h' => o = .inl (some (.int (q_bz r0.1))) ∧ h' = q_hp (t, r, 0, 529, 539, (q_pE ext), (q_pR rx), L) (q_ws I [(492, r0.2.1), (497, r0.2.2.1), (529, r0.2.2.2.1), (537, r0.2.2.2.2.1), (538, r0.2.2.2.2.2)]) (q_ws E [])) := by
  rw [f_X15_isRest] at hf
  refine q_Ct_of ok_X15_isRest (Nat.le_of_ble_eq_true rfl) ?_ _ rfl rfl
  change q_J g m_X15_isRest d 0 0 _ [] _ 0 0 (q_kc (t, r, 0, 529, 539, (q_pE ext), (q_pR rx), L) I E 0 [some (.ref 492), some (.int x1)] [] [] [])
  refine q_blk 1 [] (c' := q_kc (t, r, 0, 529, 539, (q_pE ext), (q_pR rx), L) I E 1 [some (.ref 492), some (.int x1)] [.int x1] [] []) ok_X15_isRest rfl q_cn ?_
  refine q_ksw [2, 57, 57, 22, 57, 57, 38, 41] ok_X15_isRest rfl (dp := 57) rfl (fun ix t9 ht9 hx9 => ?_) (fun hx9 => ?_) (by decide) (by decide)
  · match ix, ht9 with
    | 0, ht9 =>
      have hx9 : x1 = 4 := hx9
      cases ht9
      have hf := q_ip hx9 hf
      refine q_blk 2 [] (c' := q_kc (t, r, 0, 529, 539, (q_pE ext), (q_pR rx), L) I E 4 [some (.ref 492), some (.int x1)] [.int (5 : Int32), .ref 492] [] []) ok_X15_isRest rfl q_cn ?_
      obtain ⟨r1, hr1, hf⟩ := q_bd hf
      refine q_kV (M2 := m_X15_eat) (As := [.int (5 : Int32)]) (b := 492) (v2 := some (.int (q_bz r1.1))) ok_X15_isRest ok_X15_eat cv_X15_eat (ct_X15_eat_492 (d := 2) (Nat.le_refl _) hr1) rfl rfl (Or.inl rfl) rfl rfl rfl rfl (Nat.le_trans (Nat.le_of_ble_eq_true rfl) hd) (Nat.le_of_ble_eq_true rfl) (Nat.le_of_ble_eq_true rfl) (Nat.le_of_ble_eq_true rfl) (fun x hx => absurd hx List.not_mem_nil) (q_nmL0 _) (q_nmS0 _) rfl (pos' := 5) (st' := [.int (q_bz r1.1)]) (lI' := [(492, r1.2)]) (lE' := []) rfl rfl rfl rfl ?_
      refine q_blf 0 [] (a := q_kc (t, r, 0, 529, 539, (q_pE ext), (q_pR rx), L) I E 20 [some (.ref 492), some (.int x1)] [] [(492, r1.2)] []) (b := q_kc (t, r, 0, 529, 539, (q_pE ext), (q_pR rx), L) I E 6 [some (.ref 492), some (.int x1)] [] [(492, r1.2)] []) (P := (q_bz r1.1) = 0) ok_X15_isRest rfl q_cn (fun h2 => ?_) (fun h2 => ?_)
      · have hf := q_ip h2 hf
        refine q_blk 1 [] (c' := q_kc (t, r, 0, 529, 539, (q_pE ext), (q_pR rx), L) I E 21 [some (.ref 492), some (.int x1)] [.int (0 : Int32)] [(492, r1.2)] []) ok_X15_isRest rfl q_cn ?_
        cases hf
        exact q_kri ok_X15_isRest rfl rfl rfl (Nat.le_of_ble_eq_true rfl) (Nat.le_of_ble_eq_true rfl) ⟨rfl, q_hpe (q_fin [492, 497, 529, 537, 538] rfl) (q_fin [] rfl)⟩
      · have hf := q_in h2 hf
        refine q_blk 1 [] (c' := q_kc (t, r, 0, 529, 539, (q_pE ext), (q_pR rx), L) I E 7 [some (.ref 492), some (.int x1)] [.ref 492] [(492, r1.2)] []) ok_X15_isRest rfl q_cn ?_
        obtain ⟨r3, hr3, hf⟩ := q_bd hf
        refine q_kV (M2 := m_X15_isSum) (As := []) (b := 492) (v2 := some (.int (q_bz r3.1))) ok_X15_isRest ok_X15_isSum cv_X15_isSum (ct_X15_isSum_492 hq_isValue hq_isSum hr3) rfl rfl (Or.inl rfl) rfl rfl rfl rfl (Nat.le_trans (Nat.le_of_ble_eq_true rfl) hd) (Nat.le_of_ble_eq_true rfl) (Nat.le_of_ble_eq_true rfl) (Nat.le_of_ble_eq_true rfl) (fun x hx => absurd hx List.not_mem_nil) (q_nmL0 _) (q_nmS0 _) rfl (pos' := 8) (st' := [.int (q_bz r3.1)]) (lI' := [(492, r3.2.1), (497, r3.2.2.1), (529, r3.2.2.2.1), (537, r3.2.2.2.2.1), (538, r3.2.2.2.2.2)]) (lE' := []) rfl rfl rfl rfl ?_
        refine q_blf 0 [] (a := q_kc (t, r, 0, 529, 539, (q_pE ext), (q_pR rx), L) I E 20 [some (.ref 492), some (.int x1)] [] [(492, r3.2.1), (497, r3.2.2.1), (529, r3.2.2.2.1), (537, r3.2.2.2.2.1), (538, r3.2.2.2.2.2)] []) (b := q_kc (t, r, 0, 529, 539, (q_pE ext), (q_pR rx), L) I E 9 [some (.ref 492), some (.int x1)] [] [(492, r3.2.1), (497, r3.2.2.1), (529, r3.2.2.2.1), (537, r3.2.2.2.2.1), (538, r3.2.2.2.2.2)] []) (P := (q_bz r3.1) = 0) ok_X15_isRest rfl q_cn (fun h4 => ?_) (fun h4 => ?_)
        · have hf := q_ip h4 hf
          refine q_blk 1 [] (c' := q_kc (t, r, 0, 529, 539, (q_pE ext), (q_pR rx), L) I E 21 [some (.ref 492), some (.int x1)] [.int (0 : Int32)] [(492, r3.2.1), (497, r3.2.2.1), (529, r3.2.2.2.1), (537, r3.2.2.2.2.1), (538, r3.2.2.2.2.2)] []) ok_X15_isRest rfl q_cn ?_
          cases hf
          exact q_kri ok_X15_isRest rfl rfl rfl (Nat.le_of_ble_eq_true rfl) (Nat.le_of_ble_eq_true rfl) ⟨rfl, q_hpe (q_fin [492, 497, 529, 537, 538] rfl) (q_fin [] rfl)⟩
        · have hf := q_in h4 hf
          refine q_blk 2 [] (c' := q_kc (t, r, 0, 529, 539, (q_pE ext), (q_pR rx), L) I E 11 [some (.ref 492), some (.int x1)] [.int (6 : Int32), .ref 492] [(492, r3.2.1), (497, r3.2.2.1), (529, r3.2.2.2.1), (537, r3.2.2.2.2.1), (538, r3.2.2.2.2.2)] []) ok_X15_isRest rfl q_cn ?_
          obtain ⟨r5, hr5, hf⟩ := q_bd hf
          refine q_kV (M2 := m_X15_eat) (As := [.int (6 : Int32)]) (b := 492) (v2 := some (.int (q_bz r5.1))) ok_X15_isRest ok_X15_eat cv_X15_eat (ct_X15_eat_492 (d := 2) (Nat.le_refl _) hr5) rfl rfl (Or.inl rfl) rfl rfl rfl rfl (Nat.le_trans (Nat.le_of_ble_eq_true rfl) hd) (Nat.le_of_ble_eq_true rfl) (Nat.le_of_ble_eq_true rfl) (Nat.le_of_ble_eq_true rfl) (fun x hx => absurd hx List.not_mem_nil) (q_nmL0 _) (q_nmS0 _) rfl (pos' := 12) (st' := [.int (q_bz r5.1)]) (lI' := [(492, r5.2), (497, r3.2.2.1), (529, r3.2.2.2.1), (537, r3.2.2.2.2.1), (538, r3.2.2.2.2.2)]) (lE' := []) rfl rfl rfl rfl ?_
          refine q_blf 0 [] (a := q_kc (t, r, 0, 529, 539, (q_pE ext), (q_pR rx), L) I E 20 [some (.ref 492), some (.int x1)] [] [(492, r5.2), (497, r3.2.2.1), (529, r3.2.2.2.1), (537, r3.2.2.2.2.1), (538, r3.2.2.2.2.2)] []) (b := q_kc (t, r, 0, 529, 539, (q_pE ext), (q_pR rx), L) I E 13 [some (.ref 492), some (.int x1)] [] [(492, r5.2), (497, r3.2.2.1), (529, r3.2.2.2.1), (537, r3.2.2.2.2.1), (538, r3.2.2.2.2.2)] []) (P := (q_bz r5.1) = 0) ok_X15_isRest rfl q_cn (fun h6 => ?_) (fun h6 => ?_)
          · have hf := q_ip h6 hf
            refine q_blk 1 [] (c' := q_kc (t, r, 0, 529, 539, (q_pE ext), (q_pR rx), L) I E 21 [some (.ref 492), some (.int x1)] [.int (0 : Int32)] [(492, r5.2), (497, r3.2.2.1), (529, r3.2.2.2.1), (537, r3.2.2.2.2.1), (538, r3.2.2.2.2.2)] []) ok_X15_isRest rfl q_cn ?_
            cases hf
            exact q_kri ok_X15_isRest rfl rfl rfl (Nat.le_of_ble_eq_true rfl) (Nat.le_of_ble_eq_true rfl) ⟨rfl, q_hpe (q_fin [492, 497, 529, 537, 538] rfl) (q_fin [] rfl)⟩
          · have hf := q_in h6 hf
            refine q_blk 3 [] (c' := q_kc (t, r, 0, 529, 539, (q_pE ext), (q_pR rx), L) I E 16 [some (.ref 492), some (.int x1)] [.int (9 : Int32), .int (41 : Int32), .ref 492] [(492, r5.2), (497, r3.2.2.1), (529, r3.2.2.2.1), (537, r3.2.2.2.2.1), (538, r3.2.2.2.2.2)] []) ok_X15_isRest rfl q_cn ?_
            obtain ⟨r7, hr7, hf⟩ := q_bd hf
            refine q_kV (M2 := m_X15_eatAs) (As := [.int (41 : Int32), .int (9 : Int32)]) (b := 492) (v2 := some (.int (q_bz r7.1))) ok_X15_isRest ok_X15_eatAs cv_X15_eatAs (ct_X15_eatAs_492 (d := 3) (Nat.le_refl _) hr7) rfl rfl (Or.inl rfl) rfl rfl rfl rfl (Nat.le_trans (Nat.le_of_ble_eq_true rfl) hd) (Nat.le_of_ble_eq_true rfl) (Nat.le_of_ble_eq_true rfl) (Nat.le_of_ble_eq_true rfl) (fun x hx => absurd hx List.not_mem_nil) (q_nmL0 _) (q_nmS0 _) rfl (pos' := 17) (st' := [.int (q_bz r7.1)]) (lI' := [(492, r7.2.1), (497, r7.2.2), (529, r3.2.2.2.1), (537, r3.2.2.2.2.1), (538, r3.2.2.2.2.2)]) (lE' := []) rfl rfl rfl rfl ?_
            refine q_blf 0 [] (a := q_kc (t, r, 0, 529, 539, (q_pE ext), (q_pR rx), L) I E 20 [some (.ref 492), some (.int x1)] [] [(492, r7.2.1), (497, r7.2.2), (529, r3.2.2.2.1), (537, r3.2.2.2.2.1), (538, r3.2.2.2.2.2)] []) (b := q_kc (t, r, 0, 529, 539, (q_pE ext), (q_pR rx), L) I E 18 [some (.ref 492), some (.int x1)] [] [(492, r7.2.1), (497, r7.2.2), (529, r3.2.2.2.1), (537, r3.2.2.2.2.1), (538, r3.2.2.2.2.2)] []) (P := (q_bz r7.1) = 0) ok_X15_isRest rfl q_cn (fun h8 => ?_) (fun h8 => ?_)
            · have hf := q_ip h8 hf
              refine q_blk 1 [] (c' := q_kc (t, r, 0, 529, 539, (q_pE ext), (q_pR rx), L) I E 21 [some (.ref 492), some (.int x1)] [.int (0 : Int32)] [(492, r7.2.1), (497, r7.2.2), (529, r3.2.2.2.1), (537, r3.2.2.2.2.1), (538, r3.2.2.2.2.2)] []) ok_X15_isRest rfl q_cn ?_
              cases hf
              exact q_kri ok_X15_isRest rfl rfl rfl (Nat.le_of_ble_eq_true rfl) (Nat.le_of_ble_eq_true rfl) ⟨rfl, q_hpe (q_fin [492, 497, 529, 537, 538] rfl) (q_fin [] rfl)⟩
            · have hf := q_in h8 hf
              refine q_blk 2 [] (c' := q_kc (t, r, 0, 529, 539, (q_pE ext), (q_pR rx), L) I E 21 [some (.ref 492), some (.int x1)] [.int (1 : Int32)] [(492, r7.2.1), (497, r7.2.2), (529, r3.2.2.2.1), (537, r3.2.2.2.2.1), (538, r3.2.2.2.2.2)] []) ok_X15_isRest rfl q_cn ?_
              cases hf
              exact q_kri ok_X15_isRest rfl rfl rfl (Nat.le_of_ble_eq_true rfl) (Nat.le_of_ble_eq_true rfl) ⟨rfl, q_hpe (q_fin [492, 497, 529, 537, 538] rfl) (q_fin [] rfl)⟩
    | 1, ht9 =>
      have hx9 : x1 = 5 := hx9
      cases ht9
      have hf := q_in (fun hz9 => absurd (hx9.symm.trans hz9) (by decide)) hf
      have hf := q_ip hx9 hf
      refine q_blk 1 [] (c' := q_kc (t, r, 0, 529, 539, (q_pE ext), (q_pR rx), L) I E 58 [some (.ref 492), some (.int x1)] [.int (1 : Int32)] [] []) ok_X15_isRest rfl q_cn ?_
      cases hf
      exact q_kri ok_X15_isRest rfl rfl rfl (Nat.le_of_ble_eq_true rfl) (Nat.le_of_ble_eq_true rfl) ⟨rfl, q_hpe (q_fin [492, 497, 529, 537, 538] rfl) (q_fin [] rfl)⟩
    | 2, ht9 =>
      have hx9 : x1 = 6 := hx9
      cases ht9
      have hf := q_in (fun hz9 => absurd (hx9.symm.trans hz9) (by decide)) hf
      have hf := q_in (fun hz9 => absurd (hx9.symm.trans hz9) (by decide)) hf
      have hf := q_ip hx9 hf
      refine q_blk 1 [] (c' := q_kc (t, r, 0, 529, 539, (q_pE ext), (q_pR rx), L) I E 58 [some (.ref 492), some (.int x1)] [.int (1 : Int32)] [] []) ok_X15_isRest rfl q_cn ?_
      cases hf
      exact q_kri ok_X15_isRest rfl rfl rfl (Nat.le_of_ble_eq_true rfl) (Nat.le_of_ble_eq_true rfl) ⟨rfl, q_hpe (q_fin [492, 497, 529, 537, 538] rfl) (q_fin [] rfl)⟩
    | 3, ht9 =>
      have hx9 : x1 = 7 := hx9
      cases ht9
      have hf := q_in (fun hz9 => absurd (hx9.symm.trans hz9) (by decide)) hf
      have hf := q_in (fun hz9 => absurd (hx9.symm.trans hz9) (by decide)) hf
      have hf := q_in (fun hz9 => absurd (hx9.symm.trans hz9) (by decide)) hf
      have hf := q_ip hx9 hf
      refine q_blk 1 [] (c' := q_kc (t, r, 0, 529, 539, (q_pE ext), (q_pR rx), L) I E 23 [some (.ref 492), some (.int x1)] [.ref 492] [] []) ok_X15_isRest rfl q_cn ?_
      obtain ⟨r9, hr9, hf⟩ := q_bd hf
      refine q_kV (M2 := m_X15_isRope) (As := []) (b := 492) (v2 := some (.int (q_bz r9.1))) ok_X15_isRest ok_X15_isRope cv_X15_isRope (ct_X15_isRope_492 (d := 4) (Nat.le_refl _) hr9) rfl rfl (Or.inl rfl) rfl rfl rfl rfl (Nat.le_trans (Nat.le_of_ble_eq_true rfl) hd) (Nat.le_of_ble_eq_true rfl) (Nat.le_of_ble_eq_true rfl) (Nat.le_of_ble_eq_true rfl) (fun x hx => absurd hx List.not_mem_nil) (q_nmL0 _) (q_nmS0 _) rfl (pos' := 24) (st' := [.int (q_bz r9.1)]) (lI' := [(492, r9.2.1), (497, r9.2.2)]) (lE' := []) rfl rfl rfl rfl ?_
      refine q_blf 0 [] (a := q_kc (t, r, 0, 529, 539, (q_pE ext), (q_pR rx), L) I E 36 [some (.ref 492), some (.int x1)] [] [(492, r9.2.1), (497, r9.2.2)] []) (b := q_kc (t, r, 0, 529, 539, (q_pE ext), (q_pR rx), L) I E 25 [some (.ref 492), some (.int x1)] [] [(492, r9.2.1), (497, r9.2.2)] []) (P := (q_bz r9.1) = 0) ok_X15_isRest rfl q_cn (fun h10 => ?_) (fun h10 => ?_)
      · have hf := q_ip h10 hf
        refine q_blk 1 [] (c' := q_kc (t, r, 0, 529, 539, (q_pE ext), (q_pR rx), L) I E 37 [some (.ref 492), some (.int x1)] [.int (0 : Int32)] [(492, r9.2.1), (497, r9.2.2)] []) ok_X15_isRest rfl q_cn ?_
        cases hf
        exact q_kri ok_X15_isRest rfl rfl rfl (Nat.le_of_ble_eq_true rfl) (Nat.le_of_ble_eq_true rfl) ⟨rfl, q_hpe (q_fin [492, 497, 529, 537, 538] rfl) (q_fin [] rfl)⟩
      · have hf := q_in h10 hf
        refine q_blk 2 [] (c' := q_kc (t, r, 0, 529, 539, (q_pE ext), (q_pR rx), L) I E 27 [some (.ref 492), some (.int x1)] [.int (9 : Int32), .ref 492] [(492, r9.2.1), (497, r9.2.2)] []) ok_X15_isRest rfl q_cn ?_
        obtain ⟨r11, hr11, hf⟩ := q_bd hf
        refine q_kV (M2 := m_X15_eat) (As := [.int (9 : Int32)]) (b := 492) (v2 := some (.int (q_bz r11.1))) ok_X15_isRest ok_X15_eat cv_X15_eat (ct_X15_eat_492 (d := 2) (Nat.le_refl _) hr11) rfl rfl (Or.inl rfl) rfl rfl rfl rfl (Nat.le_trans (Nat.le_of_ble_eq_true rfl) hd) (Nat.le_of_ble_eq_true rfl) (Nat.le_of_ble_eq_true rfl) (Nat.le_of_ble_eq_true rfl) (fun x hx => absurd hx List.not_mem_nil) (q_nmL0 _) (q_nmS0 _) rfl (pos' := 28) (st' := [.int (q_bz r11.1)]) (lI' := [(492, r11.2), (497, r9.2.2)]) (lE' := []) rfl rfl rfl rfl ?_
        refine q_blf 0 [] (a := q_kc (t, r, 0, 529, 539, (q_pE ext), (q_pR rx), L) I E 36 [some (.ref 492), some (.int x1)] [] [(492, r11.2), (497, r9.2.2)] []) (b := q_kc (t, r, 0, 529, 539, (q_pE ext), (q_pR rx), L) I E 29 [some (.ref 492), some (.int x1)] [] [(492, r11.2), (497, r9.2.2)] []) (P := (q_bz r11.1) = 0) ok_X15_isRest rfl q_cn (fun h12 => ?_) (fun h12 => ?_)
        · have hf := q_ip h12 hf
          refine q_blk 1 [] (c' := q_kc (t, r, 0, 529, 539, (q_pE ext), (q_pR rx), L) I E 37 [some (.ref 492), some (.int x1)] [.int (0 : Int32)] [(492, r11.2), (497, r9.2.2)] []) ok_X15_isRest rfl q_cn ?_
          cases hf
          exact q_kri ok_X15_isRest rfl rfl rfl (Nat.le_of_ble_eq_true rfl) (Nat.le_of_ble_eq_true rfl) ⟨rfl, q_hpe (q_fin [492, 497, 529, 537, 538] rfl) (q_fin [] rfl)⟩
        · have hf := q_in h12 hf
          refine q_blk 3 [] (c' := q_kc (t, r, 0, 529, 539, (q_pE ext), (q_pR rx), L) I E 32 [some (.ref 492), some (.int x1)] [.int (4 : Int32), .int (40 : Int32), .ref 492] [(492, r11.2), (497, r9.2.2)] []) ok_X15_isRest rfl q_cn ?_
          obtain ⟨r13, hr13, hf⟩ := q_bd hf
          refine q_kV (M2 := m_X15_eatAs) (As := [.int (40 : Int32), .int (4 : Int32)]) (b := 492) (v2 := some (.int (q_bz r13.1))) ok_X15_isRest ok_X15_eatAs cv_X15_eatAs (ct_X15_eatAs_492 (d := 3) (Nat.le_refl _) hr13) rfl rfl (Or.inl rfl) rfl rfl rfl rfl (Nat.le_trans (Nat.le_of_ble_eq_true rfl) hd) (Nat.le_of_ble_eq_true rfl) (Nat.le_of_ble_eq_true rfl) (Nat.le_of_ble_eq_true rfl) (fun x hx => absurd hx List.not_mem_nil) (q_nmL0 _) (q_nmS0 _) rfl (pos' := 33) (st' := [.int (q_bz r13.1)]) (lI' := [(492, r13.2.1), (497, r13.2.2)]) (lE' := []) rfl rfl rfl rfl ?_
          refine q_blf 0 [] (a := q_kc (t, r, 0, 529, 539, (q_pE ext), (q_pR rx), L) I E 36 [some (.ref 492), some (.int x1)] [] [(492, r13.2.1), (497, r13.2.2)] []) (b := q_kc (t, r, 0, 529, 539, (q_pE ext), (q_pR rx), L) I E 34 [some (.ref 492), some (.int x1)] [] [(492, r13.2.1), (497, r13.2.2)] []) (P := (q_bz r13.1) = 0) ok_X15_isRest rfl q_cn (fun h14 => ?_) (fun h14 => ?_)
          · have hf := q_ip h14 hf
            refine q_blk 1 [] (c' := q_kc (t, r, 0, 529, 539, (q_pE ext), (q_pR rx), L) I E 37 [some (.ref 492), some (.int x1)] [.int (0 : Int32)] [(492, r13.2.1), (497, r13.2.2)] []) ok_X15_isRest rfl q_cn ?_
            cases hf
            exact q_kri ok_X15_isRest rfl rfl rfl (Nat.le_of_ble_eq_true rfl) (Nat.le_of_ble_eq_true rfl) ⟨rfl, q_hpe (q_fin [492, 497, 529, 537, 538] rfl) (q_fin [] rfl)⟩
          · have hf := q_in h14 hf
            refine q_blk 2 [] (c' := q_kc (t, r, 0, 529, 539, (q_pE ext), (q_pR rx), L) I E 37 [some (.ref 492), some (.int x1)] [.int (1 : Int32)] [(492, r13.2.1), (497, r13.2.2)] []) ok_X15_isRest rfl q_cn ?_
            cases hf
            exact q_kri ok_X15_isRest rfl rfl rfl (Nat.le_of_ble_eq_true rfl) (Nat.le_of_ble_eq_true rfl) ⟨rfl, q_hpe (q_fin [492, 497, 529, 537, 538] rfl) (q_fin [] rfl)⟩
    | 4, ht9 =>
      have hx9 : x1 = 8 := hx9
      cases ht9
      have hf := q_in (fun hz9 => absurd (hx9.symm.trans hz9) (by decide)) hf
      have hf := q_in (fun hz9 => absurd (hx9.symm.trans hz9) (by decide)) hf
      have hf := q_in (fun hz9 => absurd (hx9.symm.trans hz9) (by decide)) hf
      have hf := q_in (fun hz9 => absurd (hx9.symm.trans hz9) (by decide)) hf
      have hf := q_ip hx9 hf
      refine q_blk 1 [] (c' := q_kc (t, r, 0, 529, 539, (q_pE ext), (q_pR rx), L) I E 58 [some (.ref 492), some (.int x1)] [.int (1 : Int32)] [] []) ok_X15_isRest rfl q_cn ?_
      cases hf
      exact q_kri ok_X15_isRest rfl rfl rfl (Nat.le_of_ble_eq_true rfl) (Nat.le_of_ble_eq_true rfl) ⟨rfl, q_hpe (q_fin [492, 497, 529, 537, 538] rfl) (q_fin [] rfl)⟩
    | 5, ht9 =>
      have hx9 : x1 = 9 := hx9
      cases ht9
      have hf := q_in (fun hz9 => absurd (hx9.symm.trans hz9) (by decide)) hf
      have hf := q_in (fun hz9 => absurd (hx9.symm.trans hz9) (by decide)) hf
      have hf := q_in (fun hz9 => absurd (hx9.symm.trans hz9) (by decide)) hf
      have hf := q_in (fun hz9 => absurd (hx9.symm.trans hz9) (by decide)) hf
      have hf := q_in (fun hz9 => absurd (hx9.symm.trans hz9) (by decide)) hf
      have hf := q_ip hx9 hf
      refine q_blk 1 [] (c' := q_kc (t, r, 0, 529, 539, (q_pE ext), (q_pR rx), L) I E 58 [some (.ref 492), some (.int x1)] [.int (1 : Int32)] [] []) ok_X15_isRest rfl q_cn ?_
      cases hf
      exact q_kri ok_X15_isRest rfl rfl rfl (Nat.le_of_ble_eq_true rfl) (Nat.le_of_ble_eq_true rfl) ⟨rfl, q_hpe (q_fin [492, 497, 529, 537, 538] rfl) (q_fin [] rfl)⟩
    | 6, ht9 =>
      have hx9 : x1 = 10 := hx9
      cases ht9
      have hf := q_in (fun hz9 => absurd (hx9.symm.trans hz9) (by decide)) hf
      have hf := q_in (fun hz9 => absurd (hx9.symm.trans hz9) (by decide)) hf
      have hf := q_in (fun hz9 => absurd (hx9.symm.trans hz9) (by decide)) hf
      have hf := q_in (fun hz9 => absurd (hx9.symm.trans hz9) (by decide)) hf
      have hf := q_in (fun hz9 => absurd (hx9.symm.trans hz9) (by decide)) hf
      have hf := q_in (fun hz9 => absurd (hx9.symm.trans hz9) (by decide)) hf
      have hf := q_ip hx9 hf
      refine q_blk 1 [] (c' := q_kc (t, r, 0, 529, 539, (q_pE ext), (q_pR rx), L) I E 39 [some (.ref 492), some (.int x1)] [.ref 492] [] []) ok_X15_isRest rfl q_cn ?_
      obtain ⟨r15, hr15, hf⟩ := q_bd hf
      refine q_kV (M2 := m_X15_isRope) (As := []) (b := 492) (v2 := some (.int (q_bz r15.1))) ok_X15_isRest ok_X15_isRope cv_X15_isRope (ct_X15_isRope_492 (d := 4) (Nat.le_refl _) hr15) rfl rfl (Or.inl rfl) rfl rfl rfl rfl (Nat.le_trans (Nat.le_of_ble_eq_true rfl) hd) (Nat.le_of_ble_eq_true rfl) (Nat.le_of_ble_eq_true rfl) (Nat.le_of_ble_eq_true rfl) (fun x hx => absurd hx List.not_mem_nil) (q_nmL0 _) (q_nmS0 _) rfl (pos' := 40) (st' := [.int (q_bz r15.1)]) (lI' := [(492, r15.2.1), (497, r15.2.2)]) (lE' := []) rfl rfl rfl rfl ?_
      cases hf
      exact q_kri ok_X15_isRest rfl rfl (q_bz_nr _) (Nat.le_of_ble_eq_true rfl) (Nat.le_of_ble_eq_true rfl) ⟨rfl, q_hpe (q_fin [492, 497, 529, 537, 538] rfl) (q_fin [] rfl)⟩
    | 7, ht9 =>
      have hx9 : x1 = 11 := hx9
      cases ht9
      have hf := q_in (fun hz9 => absurd (hx9.symm.trans hz9) (by decide)) hf
      have hf := q_in (fun hz9 => absurd (hx9.symm.trans hz9) (by decide)) hf
      have hf := q_in (fun hz9 => absurd (hx9.symm.trans hz9) (by decide)) hf
      have hf := q_in (fun hz9 => absurd (hx9.symm.trans hz9) (by decide)) hf
      have hf := q_in (fun hz9 => absurd (hx9.symm.trans hz9) (by decide)) hf
      have hf := q_in (fun hz9 => absurd (hx9.symm.trans hz9) (by decide)) hf
      have hf := q_in (fun hz9 => absurd (hx9.symm.trans hz9) (by decide)) hf
      have hf := q_ip hx9 hf
      refine q_blk 2 [] (c' := q_kc (t, r, 0, 529, 539, (q_pE ext), (q_pR rx), L) I E 43 [some (.ref 492), some (.int x1)] [.int (12 : Int32), .ref 492] [] []) ok_X15_isRest rfl q_cn ?_
      obtain ⟨r16, hr16, hf⟩ := q_bd hf
      refine q_kV (M2 := m_X15_eat) (As := [.int (12 : Int32)]) (b := 492) (v2 := some (.int (q_bz r16.1))) ok_X15_isRest ok_X15_eat cv_X15_eat (ct_X15_eat_492 (d := 2) (Nat.le_refl _) hr16) rfl rfl (Or.inl rfl) rfl rfl rfl rfl (Nat.le_trans (Nat.le_of_ble_eq_true rfl) hd) (Nat.le_of_ble_eq_true rfl) (Nat.le_of_ble_eq_true rfl) (Nat.le_of_ble_eq_true rfl) (fun x hx => absurd hx List.not_mem_nil) (q_nmL0 _) (q_nmS0 _) rfl (pos' := 44) (st' := [.int (q_bz r16.1)]) (lI' := [(492, r16.2)]) (lE' := []) rfl rfl rfl rfl ?_
      refine q_blf 0 [] (a := q_kc (t, r, 0, 529, 539, (q_pE ext), (q_pR rx), L) I E 55 [some (.ref 492), some (.int x1)] [] [(492, r16.2)] []) (b := q_kc (t, r, 0, 529, 539, (q_pE ext), (q_pR rx), L) I E 45 [some (.ref 492), some (.int x1)] [] [(492, r16.2)] []) (P := (q_bz r16.1) = 0) ok_X15_isRest rfl q_cn (fun h17 => ?_) (fun h17 => ?_)
      · have hf := q_ip h17 hf
        refine q_blk 1 [] (c' := q_kc (t, r, 0, 529, 539, (q_pE ext), (q_pR rx), L) I E 56 [some (.ref 492), some (.int x1)] [.int (0 : Int32)] [(492, r16.2)] []) ok_X15_isRest rfl q_cn ?_
        cases hf
        exact q_kri ok_X15_isRest rfl rfl rfl (Nat.le_of_ble_eq_true rfl) (Nat.le_of_ble_eq_true rfl) ⟨rfl, q_hpe (q_fin [492, 497, 529, 537, 538] rfl) (q_fin [] rfl)⟩
      · have hf := q_in h17 hf
        refine q_blk 3 [] (c' := q_kc (t, r, 0, 529, 539, (q_pE ext), (q_pR rx), L) I E 48 [some (.ref 492), some (.int x1)] [.int (4 : Int32), .int (40 : Int32), .ref 492] [(492, r16.2)] []) ok_X15_isRest rfl q_cn ?_
        obtain ⟨r18, hr18, hf⟩ := q_bd hf
        refine q_kV (M2 := m_X15_eatAs) (As := [.int (40 : Int32), .int (4 : Int32)]) (b := 492) (v2 := some (.int (q_bz r18.1))) ok_X15_isRest ok_X15_eatAs cv_X15_eatAs (ct_X15_eatAs_492 (d := 3) (Nat.le_refl _) hr18) rfl rfl (Or.inl rfl) rfl rfl rfl rfl (Nat.le_trans (Nat.le_of_ble_eq_true rfl) hd) (Nat.le_of_ble_eq_true rfl) (Nat.le_of_ble_eq_true rfl) (Nat.le_of_ble_eq_true rfl) (fun x hx => absurd hx List.not_mem_nil) (q_nmL0 _) (q_nmS0 _) rfl (pos' := 49) (st' := [.int (q_bz r18.1)]) (lI' := [(492, r18.2.1), (497, r18.2.2)]) (lE' := []) rfl rfl rfl rfl ?_
        refine q_blf 0 [] (a := q_kc (t, r, 0, 529, 539, (q_pE ext), (q_pR rx), L) I E 55 [some (.ref 492), some (.int x1)] [] [(492, r18.2.1), (497, r18.2.2)] []) (b := q_kc (t, r, 0, 529, 539, (q_pE ext), (q_pR rx), L) I E 50 [some (.ref 492), some (.int x1)] [] [(492, r18.2.1), (497, r18.2.2)] []) (P := (q_bz r18.1) = 0) ok_X15_isRest rfl q_cn (fun h19 => ?_) (fun h19 => ?_)
        · have hf := q_ip h19 hf
          refine q_blk 1 [] (c' := q_kc (t, r, 0, 529, 539, (q_pE ext), (q_pR rx), L) I E 56 [some (.ref 492), some (.int x1)] [.int (0 : Int32)] [(492, r18.2.1), (497, r18.2.2)] []) ok_X15_isRest rfl q_cn ?_
          cases hf
          exact q_kri ok_X15_isRest rfl rfl rfl (Nat.le_of_ble_eq_true rfl) (Nat.le_of_ble_eq_true rfl) ⟨rfl, q_hpe (q_fin [492, 497, 529, 537, 538] rfl) (q_fin [] rfl)⟩
        · have hf := q_in h19 hf
          refine q_blk 1 [] (c' := q_kc (t, r, 0, 529, 539, (q_pE ext), (q_pR rx), L) I E 51 [some (.ref 492), some (.int x1)] [.ref 492] [(492, r18.2.1), (497, r18.2.2)] []) ok_X15_isRest rfl q_cn ?_
          obtain ⟨r20, hr20, hf⟩ := q_bd hf
          refine q_kV (M2 := m_X15_isRope) (As := []) (b := 492) (v2 := some (.int (q_bz r20.1))) ok_X15_isRest ok_X15_isRope cv_X15_isRope (ct_X15_isRope_492 (d := 4) (Nat.le_refl _) hr20) rfl rfl (Or.inl rfl) rfl rfl rfl rfl (Nat.le_trans (Nat.le_of_ble_eq_true rfl) hd) (Nat.le_of_ble_eq_true rfl) (Nat.le_of_ble_eq_true rfl) (Nat.le_of_ble_eq_true rfl) (fun x hx => absurd hx List.not_mem_nil) (q_nmL0 _) (q_nmS0 _) rfl (pos' := 52) (st' := [.int (q_bz r20.1)]) (lI' := [(492, r20.2.1), (497, r20.2.2)]) (lE' := []) rfl rfl rfl rfl ?_
          refine q_blf 0 [] (a := q_kc (t, r, 0, 529, 539, (q_pE ext), (q_pR rx), L) I E 55 [some (.ref 492), some (.int x1)] [] [(492, r20.2.1), (497, r20.2.2)] []) (b := q_kc (t, r, 0, 529, 539, (q_pE ext), (q_pR rx), L) I E 53 [some (.ref 492), some (.int x1)] [] [(492, r20.2.1), (497, r20.2.2)] []) (P := (q_bz r20.1) = 0) ok_X15_isRest rfl q_cn (fun h21 => ?_) (fun h21 => ?_)
          · have hf := q_ip h21 hf
            refine q_blk 1 [] (c' := q_kc (t, r, 0, 529, 539, (q_pE ext), (q_pR rx), L) I E 56 [some (.ref 492), some (.int x1)] [.int (0 : Int32)] [(492, r20.2.1), (497, r20.2.2)] []) ok_X15_isRest rfl q_cn ?_
            cases hf
            exact q_kri ok_X15_isRest rfl rfl rfl (Nat.le_of_ble_eq_true rfl) (Nat.le_of_ble_eq_true rfl) ⟨rfl, q_hpe (q_fin [492, 497, 529, 537, 538] rfl) (q_fin [] rfl)⟩
          · have hf := q_in h21 hf
            refine q_blk 2 [] (c' := q_kc (t, r, 0, 529, 539, (q_pE ext), (q_pR rx), L) I E 56 [some (.ref 492), some (.int x1)] [.int (1 : Int32)] [(492, r20.2.1), (497, r20.2.2)] []) ok_X15_isRest rfl q_cn ?_
            cases hf
            exact q_kri ok_X15_isRest rfl rfl rfl (Nat.le_of_ble_eq_true rfl) (Nat.le_of_ble_eq_true rfl) ⟨rfl, q_hpe (q_fin [492, 497, 529, 537, 538] rfl) (q_fin [] rfl)⟩
    | z9 + 8, ht9 => cases ht9
  · have hf := q_in (hx9 0 (by decide)) hf
    have hf := q_in (hx9 1 (by decide)) hf
    have hf := q_in (hx9 2 (by decide)) hf
    have hf := q_in (hx9 3 (by decide)) hf
    have hf := q_in (hx9 4 (by decide)) hf
    have hf := q_in (hx9 5 (by decide)) hf
    have hf := q_in (hx9 6 (by decide)) hf
    have hf := q_in (hx9 7 (by decide)) hf
    refine q_blk 1 [] (c' := q_kc (t, r, 0, 529, 539, (q_pE ext), (q_pR rx), L) I E 58 [some (.ref 492), some (.int x1)] [.int (1 : Int32)] [] []) ok_X15_isRest rfl q_cn ?_
    cases hf
    exact q_kri ok_X15_isRest rfl rfl rfl (Nat.le_of_ble_eq_true rfl) (Nat.le_of_ble_eq_true rfl) ⟨rfl, q_hpe (q_fin [492, 497, 529, 537, 538] rfl) (q_fin [] rfl)⟩
set_option maxHeartbeats 4000000 in
theorem ct_X15_isNamed_492 {g : q_G} {t : Nat} {r : Nat} {ext : Nat → q_Sh} {rx : Nat → Nat → Option Nat} {L : Nat → Nat → Int64} {d : Nat} (hd : 5 ≤ d)  {I : Nat → Nat → Int32} {E : Nat → Nat → Option Nat} {x1 : Int32} {r0 : Bool × (Nat → Int32) × (Nat → Int32) × (Nat → Int32) × (Nat → Int32) × (Nat → Int32)} (hf : f_X15_isNamed (I 492) (I 494) (I 497) (I 529) (I 537) (I 538) x1 = some r0) : q_Ct g m_X15_isNamed d 0 0 [] [.ref 492, .int x1] (q_hp (t, r, 0, 529, 539, (q_pE ext), (q_pR rx), L) I E) (fun o h' => o = .inl (some (.int (q_bz r0.1))) ∧ h' = q_hp (t, r, 0, 529, 539, (q_pE ext), (q_pR rx), L) (q_ws I [(492, r0.2.1), (497, r0.2.2.1), (529, r0.2.2.2.1), (537, r0.2.2.2.2.1), (538, r0.2.2.2.2.2)]) (q_ws E [])) := by
  rw [f_X15_isNamed] at hf
  refine q_Ct_of ok_X15_isNamed (Nat.le_of_ble_eq_true rfl) ?_ _ rfl rfl
  change q_J g m_X15_isNamed d 0 0 _ [] _ 0 0 (q_kc (t, r, 0, 529, 539, (q_pE ext), (q_pR rx), L) I E 0 [some (.ref 492), some (.int x1)] [] [] [])
  obtain ⟨j1, hj1, hf⟩ := q_bd hf
  refine q_blk 6 [j1] (c' := q_kc (t, r, 0, 529, 539, (q_pE ext), (q_pR rx), L) I E 6 [some (.ref 492), some (.int x1)] [.int ((I 494) j1), .ref 492] [] []) ok_X15_isNamed rfl (q_cc hj1 q_cn) ?_
  obtain ⟨r2, hr2, hf⟩ := q_bd hf
  refine q_kV (M2 := m_X15_put) (As := [.int ((I 494) j1)]) (b := 492) (v2 := none) ok_X15_isNamed ok_X15_put cv_X15_put (ct_X15_put_492 (d := 1) (Nat.le_refl _) hr2) rfl rfl (Or.inl rfl) rfl rfl rfl rfl (Nat.le_trans (Nat.le_of_ble_eq_true rfl) hd) (Nat.le_of_ble_eq_true rfl) (Nat.le_of_ble_eq_true rfl) (Nat.le_of_ble_eq_true rfl) (fun x hx => absurd hx List.not_mem_nil) (q_nmL0 _) (q_nmS0 _) rfl (pos' := 7) (st' := []) (lI' := [(529, r2.1), (537, r2.2)]) (lE' := []) rfl rfl rfl rfl ?_
  refine q_blk 8 [] (c' := q_kc (t, r, 0, 529, 539, (q_pE ext), (q_pR rx), L) I E 15 [some (.ref 492), some (.int x1)] [.int x1, .ref 492] [(492, (q_up (I 492) 9 (((I 492) 9) + (1 : Int32)))), (529, r2.1), (537, r2.2)] []) ok_X15_isNamed rfl q_cn ?_
  obtain ⟨r3, hr3, hf⟩ := q_bd hf
  refine q_kV (M2 := m_X15_isName) (As := [.int x1]) (b := 492) (v2 := some (.int (q_bz r3.1))) ok_X15_isNamed ok_X15_isName cv_X15_isName (ct_X15_isName_492 (d := 4) (Nat.le_refl _) hr3) rfl rfl (Or.inl rfl) rfl rfl rfl rfl (Nat.le_trans (Nat.le_of_ble_eq_true rfl) hd) (Nat.le_of_ble_eq_true rfl) (Nat.le_of_ble_eq_true rfl) (Nat.le_of_ble_eq_true rfl) (fun x hx => absurd hx List.not_mem_nil) (q_nmL0 _) (q_nmS0 _) rfl (pos' := 16) (st' := [.int (q_bz r3.1)]) (lI' := [(492, r3.2.1), (497, r3.2.2.1), (529, r3.2.2.2.1), (537, r3.2.2.2.2.1), (538, r3.2.2.2.2.2)]) (lE' := []) rfl rfl rfl rfl ?_
  cases hf
  exact q_kri ok_X15_isNamed rfl rfl (q_bz_nr _) (Nat.le_of_ble_eq_true rfl) (Nat.le_of_ble_eq_true rfl) ⟨rfl, q_hpe (q_fin [492, 497, 529, 537, 538] rfl) (q_fin [] rfl)⟩
set_option maxHeartbeats 4000000 in
theorem ct_X15_isSingle_492 {g : q_G} {t : Nat} {r : Nat} {ext : Nat → q_Sh} {rx : Nat → Nat → Option Nat} {L : Nat → Nat → Int64} {dR : Nat}  {r_isSingle : (Nat → Int32) → (Nat → Int32) → (Nat → Int32) → (Nat → Int32) → (Nat → Int32) → (Nat → Int32) → (Nat → Int32) → (Nat → Int32) → (Nat → Int32) → Option (Bool × (Nat → Int32) × (Nat → Int32) × (Nat → Int32) × (Nat → Int32) × (Nat → Int32))} (hq_isSingle : ∀ {I : Nat → Nat → Int32} {E : Nat → Nat → Option Nat} {r0 : Bool × (Nat → Int32) × (Nat → Int32) × (Nat → Int32) × (Nat → Int32) × (Nat → Int32)}, r_isSingle ((I 492)) ((I 493)) ((I 494)) ((I 495)) ((I 496)) ((I 497)) ((I 529)) ((I 537)) ((I 538)) = some r0 → q_Ct g m_X15_isSingle dR 0 0 [] [.ref 492] (q_hp (t, r, 0, 529, 539, (q_pE ext), (q_pR rx), L) I E) (fun o h' => o = .inl (some (.int (q_bz r0.1))) ∧ h' = q_hp (t, r, 0, 529, 539, (q_pE ext), (q_pR rx), L) (q_ws I [(492, r0.2.1), (497, r0.2.2.1), (529, r0.2.2.2.1), (537, r0.2.2.2.2.1), (538, r0.2.2.2.2.2)]) (q_ws E []))) {r_isTest : (Nat → Int32) → (Nat → Int32) → (Nat → Int32) → (Nat → Int32) → (Nat → Int32) → (Nat → Int32) → (Nat → Int32) → (Nat → Int32) → (Nat → Int32) → Option (Bool × (Nat → Int32) × (Nat → Int32) × (Nat → Int32) × (Nat → Int32) × (Nat → Int32))} (hq_isTest : ∀ {I : Nat → Nat → Int32} {E : Nat → Nat → Option Nat} {r0 : Bool × (Nat → Int32) × (Nat → Int32) × (Nat → Int32) × (Nat → Int32) × (Nat → Int32)}, r_isTest ((I 492)) ((I 493)) ((I 494)) ((I 495)) ((I 496)) ((I 497)) ((I 529)) ((I 537)) ((I 538)) = some r0 → q_Ct g m_X15_isTest dR 0 0 [] [.ref 492] (q_hp (t, r, 0, 529, 539, (q_pE ext), (q_pR rx), L) I E) (fun o h' => o = .inl (some (.int (q_bz r0.1))) ∧ h' = q_hp (t, r, 0, 529, 539, (q_pE ext), (q_pR rx), L) (q_ws I [(492, r0.2.1), (497, r0.2.2.1), (529, r0.2.2.2.1), (537, r0.2.2.2.2.1), (538, r0.2.2.2.2.2)]) (q_ws E []))) {r_isValue : (Nat → Int32) → (Nat → Int32) → (Nat → Int32) → (Nat → Int32) → (Nat → Int32) → (Nat → Int32) → (Nat → Int32) → (Nat → Int32) → (Nat → Int32) → Option (Bool × (Nat → Int32) × (Nat → Int32) × (Nat → Int32) × (Nat → Int32) × (Nat → Int32))} (hq_isValue : ∀ {I : Nat → Nat → Int32} {E : Nat → Nat → Option Nat} {r0 : Bool × (Nat → Int32) × (Nat → Int32) × (Nat → Int32) × (Nat → Int32) × (Nat → Int32)}, r_isValue ((I 492)) ((I 493)) ((I 494)) ((I 495)) ((I 496)) ((I 497)) ((I 529)) ((I 537)) ((I 538)) = some r0 → q_Ct g m_X15_isValue dR 0 0 [] [.ref 492] (q_hp (t, r, 0, 529, 539, (q_pE ext), (q_pR rx), L) I E) (fun o h' => o = .inl (some (.int (q_bz r0.1))) ∧ h' = q_hp (t, r, 0, 529, 539, (q_pE ext), (q_pR rx), L) (q_ws I [(492, r0.2.1), (497, r0.2.2.1), (529, r0.2.2.2.1), (537, r0.2.2.2.2.1), (538, r0.2.2.2.2.2)]) (q_ws E []))) {r_isSum : (Nat → Int32) → (Nat → Int32) → (Nat → Int32) → (Nat → Int32) → (Nat → Int32) → (Nat → Int32) → (Nat → Int32) → (Nat → Int32) → (Nat → Int32) → Option (Bool × (Nat → Int32) × (Nat → Int32) × (Nat → Int32) × (Nat → Int32) × (Nat → Int32))} (hq_isSum : ∀ {I : Nat → Nat → Int32} {E : Nat → Nat → Option Nat} {r0 : Bool × (Nat → Int32) × (Nat → Int32) × (Nat → Int32) × (Nat → Int32) × (Nat → Int32)}, r_isSum ((I 492)) ((I 493)) ((I 494)) ((I 495)) ((I 496)) ((I 497)) ((I 529)) ((I 537)) ((I 538)) = some r0 → q_Ct g m_X15_isSum dR 0 0 [] [.ref 492] (q_hp (t, r, 0, 529, 539, (q_pE ext), (q_pR rx), L) I E) (fun o h' => o = .inl (some (.int (q_bz r0.1))) ∧ h' = q_hp (t, r, 0, 529, 539, (q_pE ext), (q_pR rx), L) (q_ws I [(492, r0.2.1), (497, r0.2.2.1), (529, r0.2.2.2.1), (537, r0.2.2.2.2.1), (538, r0.2.2.2.2.2)]) (q_ws E []))){I : Nat → Nat → Int32} {E : Nat → Nat → Option Nat} {r0 : Bool × (Nat → Int32) × (Nat → Int32) × (Nat → Int32) × (Nat → Int32) × (Nat → Int32)} (hf : f_X15_isSingle r_isSingle r_isTest r_isValue r_isSum (I 492) (I 493) (I 494) (I 495) (I 496) (I 497) (I 529) (I 537) (I 538) = some r0) : q_Ct g m_X15_isSingle (dR + 8) 0 0 [] [.ref 492] (q_hp (t, r, 0, 529, 539, (q_pE ext), (q_pR rx), L) I E) (fun o h' => o = .inl (some (.int (q_bz r0.1))) ∧ h' = q_hp (t, r, 0, 529, 539, (q_pE ext), (q_pR rx), L) (q_ws I [(492, r0.2.1), (497, r0.2.2.1), (529, r0.2.2.2.1), (537, r0.2.2.2.2.1), (538, r0.2.2.2.2.2)]) (q_ws E [])) := by
  rw [f_X15_isSingle] at hf
  refine q_Ct_of ok_X15_isSingle (Nat.le_of_ble_eq_true rfl) ?_ _ rfl rfl
  change q_J g m_X15_isSingle (dR + 8) 0 0 _ [] _ 0 0 (q_kc (t, r, 0, 529, 539, (q_pE ext), (q_pR rx), L) I E 0 [some (.ref 492), none] [] [] [])
  refine q_blk 2 [] (c' := q_kc (t, r, 0, 529, 539, (q_pE ext), (q_pR rx), L) I E 2 [some (.ref 492), none] [.int (24 : Int32), .ref 492] [] []) ok_X15_isSingle rfl q_cn ?_
  obtain ⟨r1, hr1, hf⟩ := q_bd hf
  refine q_kV (M2 := m_X15_is) (As := [.int (24 : Int32)]) (b := 492) (v2 := some (.int (q_bz r1))) ok_X15_isSingle ok_X15_is cv_X15_is (ct_X15_is_492 (d := 1) (Nat.le_refl _) hr1) rfl rfl (Or.inl rfl) rfl rfl rfl rfl (by omega) (Nat.le_of_ble_eq_true rfl) (Nat.le_of_ble_eq_true rfl) (Nat.le_of_ble_eq_true rfl) (fun x hx => absurd hx List.not_mem_nil) (q_nmL0 _) (q_nmS0 _) rfl (pos' := 3) (st' := [.int (q_bz r1)]) (lI' := []) (lE' := []) rfl rfl rfl rfl ?_
  refine q_blf 0 [] (a := q_kc (t, r, 0, 529, 539, (q_pE ext), (q_pR rx), L) I E 23 [some (.ref 492), none] [] [] []) (b := q_kc (t, r, 0, 529, 539, (q_pE ext), (q_pR rx), L) I E 4 [some (.ref 492), none] [] [] []) (P := (q_bz r1) = 0) ok_X15_isSingle rfl q_cn (fun h2 => ?_) (fun h2 => ?_)
  · have hf := q_ip h2 hf
    refine q_blk 2 [] (c' := q_kc (t, r, 0, 529, 539, (q_pE ext), (q_pR rx), L) I E 25 [some (.ref 492), none] [.int (91 : Int32), .ref 492] [] []) ok_X15_isSingle rfl q_cn ?_
    obtain ⟨r3, hr3, hf⟩ := q_bd hf
    refine q_kV (M2 := m_X15_isSign) (As := [.int (91 : Int32)]) (b := 492) (v2 := some (.int (q_bz r3))) ok_X15_isSingle ok_X15_isSign cv_X15_isSign (ct_X15_isSign_492 (d := 1) (Nat.le_refl _) hr3) rfl rfl (Or.inl rfl) rfl rfl rfl rfl (by omega) (Nat.le_of_ble_eq_true rfl) (Nat.le_of_ble_eq_true rfl) (Nat.le_of_ble_eq_true rfl) (fun x hx => absurd hx List.not_mem_nil) (q_nmL0 _) (q_nmS0 _) rfl (pos' := 26) (st' := [.int (q_bz r3)]) (lI' := []) (lE' := []) rfl rfl rfl rfl ?_
    refine q_blf 0 [] (a := q_kc (t, r, 0, 529, 539, (q_pE ext), (q_pR rx), L) I E 45 [some (.ref 492), none] [] [] []) (b := q_kc (t, r, 0, 529, 539, (q_pE ext), (q_pR rx), L) I E 27 [some (.ref 492), none] [] [] []) (P := (q_bz r3) = 0) ok_X15_isSingle rfl q_cn (fun h4 => ?_) (fun h4 => ?_)
    · have hf := q_ip h4 hf
      refine q_blk 2 [] (c' := q_kc (t, r, 0, 529, 539, (q_pE ext), (q_pR rx), L) I E 47 [some (.ref 492), none] [.int (22 : Int32), .ref 492] [] []) ok_X15_isSingle rfl q_cn ?_
      obtain ⟨r5, hr5, hf⟩ := q_bd hf
      refine q_kV (M2 := m_X15_is) (As := [.int (22 : Int32)]) (b := 492) (v2 := some (.int (q_bz r5))) ok_X15_isSingle ok_X15_is cv_X15_is (ct_X15_is_492 (d := 1) (Nat.le_refl _) hr5) rfl rfl (Or.inl rfl) rfl rfl rfl rfl (by omega) (Nat.le_of_ble_eq_true rfl) (Nat.le_of_ble_eq_true rfl) (Nat.le_of_ble_eq_true rfl) (fun x hx => absurd hx List.not_mem_nil) (q_nmL0 _) (q_nmS0 _) rfl (pos' := 48) (st' := [.int (q_bz r5)]) (lI' := []) (lE' := []) rfl rfl rfl rfl ?_
      refine q_blf 0 [] (a := q_kc (t, r, 0, 529, 539, (q_pE ext), (q_pR rx), L) I E 53 [some (.ref 492), none] [] [] []) (b := q_kc (t, r, 0, 529, 539, (q_pE ext), (q_pR rx), L) I E 49 [some (.ref 492), none] [] [] []) (P := (q_bz r5) = 0) ok_X15_isSingle rfl q_cn (fun h6 => ?_) (fun h6 => ?_)
      · have hf := q_ip h6 hf
        refine q_blk 2 [] (c' := q_kc (t, r, 0, 529, 539, (q_pE ext), (q_pR rx), L) I E 55 [some (.ref 492), none] [.int (23 : Int32), .ref 492] [] []) ok_X15_isSingle rfl q_cn ?_
        obtain ⟨r7, hr7, hf⟩ := q_bd hf
        refine q_kV (M2 := m_X15_is) (As := [.int (23 : Int32)]) (b := 492) (v2 := some (.int (q_bz r7))) ok_X15_isSingle ok_X15_is cv_X15_is (ct_X15_is_492 (d := 1) (Nat.le_refl _) hr7) rfl rfl (Or.inl rfl) rfl rfl rfl rfl (by omega) (Nat.le_of_ble_eq_true rfl) (Nat.le_of_ble_eq_true rfl) (Nat.le_of_ble_eq_true rfl) (fun x hx => absurd hx List.not_mem_nil) (q_nmL0 _) (q_nmS0 _) rfl (pos' := 56) (st' := [.int (q_bz r7)]) (lI' := []) (lE' := []) rfl rfl rfl rfl ?_
        refine q_blf 0 [] (a := q_kc (t, r, 0, 529, 539, (q_pE ext), (q_pR rx), L) I E 69 [some (.ref 492), none] [] [] []) (b := q_kc (t, r, 0, 529, 539, (q_pE ext), (q_pR rx), L) I E 57 [some (.ref 492), none] [] [] []) (P := (q_bz r7) = 0) ok_X15_isSingle rfl q_cn (fun h8 => ?_) (fun h8 => ?_)
        · have hf := q_ip h8 hf
          refine q_blk 1 [] (c' := q_kc (t, r, 0, 529, 539, (q_pE ext), (q_pR rx), L) I E 70 [some (.ref 492), none] [.ref 492] [] []) ok_X15_isSingle rfl q_cn ?_
          obtain ⟨r9, hr9, hf⟩ := q_bd hf
          refine q_kV (M2 := m_X15_isSum) (As := []) (b := 492) (v2 := some (.int (q_bz r9.1))) ok_X15_isSingle ok_X15_isSum cv_X15_isSum (ct_X15_isSum_492 hq_isValue hq_isSum hr9) rfl rfl (Or.inl rfl) rfl rfl rfl rfl (by omega) (Nat.le_of_ble_eq_true rfl) (Nat.le_of_ble_eq_true rfl) (Nat.le_of_ble_eq_true rfl) (fun x hx => absurd hx List.not_mem_nil) (q_nmL0 _) (q_nmS0 _) rfl (pos' := 71) (st' := [.int (q_bz r9.1)]) (lI' := [(492, r9.2.1), (497, r9.2.2.1), (529, r9.2.2.2.1), (537, r9.2.2.2.2.1), (538, r9.2.2.2.2.2)]) (lE' := []) rfl rfl rfl rfl ?_
          refine q_blf 0 [] (a := q_kc (t, r, 0, 529, 539, (q_pE ext), (q_pR rx), L) I E 74 [some (.ref 492), none] [] [(492, r9.2.1), (497, r9.2.2.1), (529, r9.2.2.2.1), (537, r9.2.2.2.2.1), (538, r9.2.2.2.2.2)] []) (b := q_kc (t, r, 0, 529, 539, (q_pE ext), (q_pR rx), L) I E 72 [some (.ref 492), none] [] [(492, r9.2.1), (497, r9.2.2.1), (529, r9.2.2.2.1), (537, r9.2.2.2.2.1), (538, r9.2.2.2.2.2)] []) (P := ¬ (q_bz r9.1) = 0) ok_X15_isSingle rfl q_cn (fun h10 => ?_) (fun h10 => ?_)
          · have hf := q_ip h10 hf
            refine q_blk 2 [] (c' := q_kc (t, r, 0, 529, 539, (q_pE ext), (q_pR rx), L) I E 76 [some (.ref 492), none] [.int (60 : Int32), .ref 492] [(492, r9.2.1), (497, r9.2.2.1), (529, r9.2.2.2.1), (537, r9.2.2.2.2.1), (538, r9.2.2.2.2.2)] []) ok_X15_isSingle rfl q_cn ?_
            obtain ⟨r11, hr11, hf⟩ := q_bd hf
            refine q_kV (M2 := m_X15_isSign) (As := [.int (60 : Int32)]) (b := 492) (v2 := some (.int (q_bz r11))) ok_X15_isSingle ok_X15_isSign cv_X15_isSign (ct_X15_isSign_492 (d := 1) (Nat.le_refl _) hr11) rfl rfl (Or.inl rfl) rfl rfl rfl rfl (by omega) (Nat.le_of_ble_eq_true rfl) (Nat.le_of_ble_eq_true rfl) (Nat.le_of_ble_eq_true rfl) (fun x hx => absurd hx List.not_mem_nil) (q_nmL0 _) (q_nmS0 _) rfl (pos' := 77) (st' := [.int (q_bz r11)]) (lI' := [(492, r9.2.1), (497, r9.2.2.1), (529, r9.2.2.2.1), (537, r9.2.2.2.2.1), (538, r9.2.2.2.2.2)]) (lE' := []) rfl rfl rfl rfl ?_
            refine q_blf 0 [] (a := q_kc (t, r, 0, 529, 539, (q_pE ext), (q_pR rx), L) I E 80 [some (.ref 492), none] [] [(492, r9.2.1), (497, r9.2.2.1), (529, r9.2.2.2.1), (537, r9.2.2.2.2.1), (538, r9.2.2.2.2.2)] []) (b := q_kc (t, r, 0, 529, 539, (q_pE ext), (q_pR rx), L) I E 78 [some (.ref 492), none] [] [(492, r9.2.1), (497, r9.2.2.1), (529, r9.2.2.2.1), (537, r9.2.2.2.2.1), (538, r9.2.2.2.2.2)] []) (P := (q_bz r11) = 0) ok_X15_isSingle rfl q_cn (fun h12 => ?_) (fun h12 => ?_)
            · have hf := q_ip h12 hf
              refine q_blk 2 [] (c' := q_kc (t, r, 0, 529, 539, (q_pE ext), (q_pR rx), L) I E 82 [some (.ref 492), none] [.int (62 : Int32), .ref 492] [(492, r9.2.1), (497, r9.2.2.1), (529, r9.2.2.2.1), (537, r9.2.2.2.2.1), (538, r9.2.2.2.2.2)] []) ok_X15_isSingle rfl q_cn ?_
              obtain ⟨r13, hr13, hf⟩ := q_bd hf
              refine q_kV (M2 := m_X15_isSign) (As := [.int (62 : Int32)]) (b := 492) (v2 := some (.int (q_bz r13))) ok_X15_isSingle ok_X15_isSign cv_X15_isSign (ct_X15_isSign_492 (d := 1) (Nat.le_refl _) hr13) rfl rfl (Or.inl rfl) rfl rfl rfl rfl (by omega) (Nat.le_of_ble_eq_true rfl) (Nat.le_of_ble_eq_true rfl) (Nat.le_of_ble_eq_true rfl) (fun x hx => absurd hx List.not_mem_nil) (q_nmL0 _) (q_nmS0 _) rfl (pos' := 83) (st' := [.int (q_bz r13)]) (lI' := [(492, r9.2.1), (497, r9.2.2.1), (529, r9.2.2.2.1), (537, r9.2.2.2.2.1), (538, r9.2.2.2.2.2)]) (lE' := []) rfl rfl rfl rfl ?_
              refine q_blf 0 [] (a := q_kc (t, r, 0, 529, 539, (q_pE ext), (q_pR rx), L) I E 86 [some (.ref 492), none] [] [(492, r9.2.1), (497, r9.2.2.1), (529, r9.2.2.2.1), (537, r9.2.2.2.2.1), (538, r9.2.2.2.2.2)] []) (b := q_kc (t, r, 0, 529, 539, (q_pE ext), (q_pR rx), L) I E 84 [some (.ref 492), none] [] [(492, r9.2.1), (497, r9.2.2.1), (529, r9.2.2.2.1), (537, r9.2.2.2.2.1), (538, r9.2.2.2.2.2)] []) (P := (q_bz r13) = 0) ok_X15_isSingle rfl q_cn (fun h14 => ?_) (fun h14 => ?_)
              · have hf := q_ip h14 hf
                refine q_blk 2 [] (c' := q_kc (t, r, 0, 529, 539, (q_pE ext), (q_pR rx), L) I E 88 [some (.ref 492), none] [.int (61 : Int32), .ref 492] [(492, r9.2.1), (497, r9.2.2.1), (529, r9.2.2.2.1), (537, r9.2.2.2.2.1), (538, r9.2.2.2.2.2)] []) ok_X15_isSingle rfl q_cn ?_
                obtain ⟨r15, hr15, hf⟩ := q_bd hf
                refine q_kV (M2 := m_X15_isSign) (As := [.int (61 : Int32)]) (b := 492) (v2 := some (.int (q_bz r15))) ok_X15_isSingle ok_X15_isSign cv_X15_isSign (ct_X15_isSign_492 (d := 1) (Nat.le_refl _) hr15) rfl rfl (Or.inl rfl) rfl rfl rfl rfl (by omega) (Nat.le_of_ble_eq_true rfl) (Nat.le_of_ble_eq_true rfl) (Nat.le_of_ble_eq_true rfl) (fun x hx => absurd hx List.not_mem_nil) (q_nmL0 _) (q_nmS0 _) rfl (pos' := 89) (st' := [.int (q_bz r15)]) (lI' := [(492, r9.2.1), (497, r9.2.2.1), (529, r9.2.2.2.1), (537, r9.2.2.2.2.1), (538, r9.2.2.2.2.2)]) (lE' := []) rfl rfl rfl rfl ?_
                refine q_blf 0 [] (a := q_kc (t, r, 0, 529, 539, (q_pE ext), (q_pR rx), L) I E 92 [some (.ref 492), none] [] [(492, r9.2.1), (497, r9.2.2.1), (529, r9.2.2.2.1), (537, r9.2.2.2.2.1), (538, r9.2.2.2.2.2)] []) (b := q_kc (t, r, 0, 529, 539, (q_pE ext), (q_pR rx), L) I E 90 [some (.ref 492), none] [] [(492, r9.2.1), (497, r9.2.2.1), (529, r9.2.2.2.1), (537, r9.2.2.2.2.1), (538, r9.2.2.2.2.2)] []) (P := (q_bz r15) = 0) ok_X15_isSingle rfl q_cn (fun h16 => ?_) (fun h16 => ?_)
                · have hf := q_ip h16 hf
                  refine q_blk 2 [] (c' := q_kc (t, r, 0, 529, 539, (q_pE ext), (q_pR rx), L) I E 94 [some (.ref 492), none] [.int (300 : Int32), .ref 492] [(492, r9.2.1), (497, r9.2.2.1), (529, r9.2.2.2.1), (537, r9.2.2.2.2.1), (538, r9.2.2.2.2.2)] []) ok_X15_isSingle rfl q_cn ?_
                  obtain ⟨r17, hr17, hf⟩ := q_bd hf
                  refine q_kV (M2 := m_X15_is) (As := [.int (300 : Int32)]) (b := 492) (v2 := some (.int (q_bz r17))) ok_X15_isSingle ok_X15_is cv_X15_is (ct_X15_is_492 (d := 1) (Nat.le_refl _) hr17) rfl rfl (Or.inl rfl) rfl rfl rfl rfl (by omega) (Nat.le_of_ble_eq_true rfl) (Nat.le_of_ble_eq_true rfl) (Nat.le_of_ble_eq_true rfl) (fun x hx => absurd hx List.not_mem_nil) (q_nmL0 _) (q_nmS0 _) rfl (pos' := 95) (st' := [.int (q_bz r17)]) (lI' := [(492, r9.2.1), (497, r9.2.2.1), (529, r9.2.2.2.1), (537, r9.2.2.2.2.1), (538, r9.2.2.2.2.2)]) (lE' := []) rfl rfl rfl rfl ?_
                  refine q_blf 0 [] (a := q_kc (t, r, 0, 529, 539, (q_pE ext), (q_pR rx), L) I E 98 [some (.ref 492), none] [] [(492, r9.2.1), (497, r9.2.2.1), (529, r9.2.2.2.1), (537, r9.2.2.2.2.1), (538, r9.2.2.2.2.2)] []) (b := q_kc (t, r, 0, 529, 539, (q_pE ext), (q_pR rx), L) I E 96 [some (.ref 492), none] [] [(492, r9.2.1), (497, r9.2.2.1), (529, r9.2.2.2.1), (537, r9.2.2.2.2.1), (538, r9.2.2.2.2.2)] []) (P := (q_bz r17) = 0) ok_X15_isSingle rfl q_cn (fun h18 => ?_) (fun h18 => ?_)
                  · have hf := q_ip h18 hf
                    refine q_blk 2 [] (c' := q_kc (t, r, 0, 529, 539, (q_pE ext), (q_pR rx), L) I E 100 [some (.ref 492), none] [.int (301 : Int32), .ref 492] [(492, r9.2.1), (497, r9.2.2.1), (529, r9.2.2.2.1), (537, r9.2.2.2.2.1), (538, r9.2.2.2.2.2)] []) ok_X15_isSingle rfl q_cn ?_
                    obtain ⟨r19, hr19, hf⟩ := q_bd hf
                    refine q_kV (M2 := m_X15_is) (As := [.int (301 : Int32)]) (b := 492) (v2 := some (.int (q_bz r19))) ok_X15_isSingle ok_X15_is cv_X15_is (ct_X15_is_492 (d := 1) (Nat.le_refl _) hr19) rfl rfl (Or.inl rfl) rfl rfl rfl rfl (by omega) (Nat.le_of_ble_eq_true rfl) (Nat.le_of_ble_eq_true rfl) (Nat.le_of_ble_eq_true rfl) (fun x hx => absurd hx List.not_mem_nil) (q_nmL0 _) (q_nmS0 _) rfl (pos' := 101) (st' := [.int (q_bz r19)]) (lI' := [(492, r9.2.1), (497, r9.2.2.1), (529, r9.2.2.2.1), (537, r9.2.2.2.2.1), (538, r9.2.2.2.2.2)]) (lE' := []) rfl rfl rfl rfl ?_
                    refine q_blf 0 [] (a := q_kc (t, r, 0, 529, 539, (q_pE ext), (q_pR rx), L) I E 104 [some (.ref 492), none] [] [(492, r9.2.1), (497, r9.2.2.1), (529, r9.2.2.2.1), (537, r9.2.2.2.2.1), (538, r9.2.2.2.2.2)] []) (b := q_kc (t, r, 0, 529, 539, (q_pE ext), (q_pR rx), L) I E 102 [some (.ref 492), none] [] [(492, r9.2.1), (497, r9.2.2.1), (529, r9.2.2.2.1), (537, r9.2.2.2.2.1), (538, r9.2.2.2.2.2)] []) (P := (q_bz r19) = 0) ok_X15_isSingle rfl q_cn (fun h20 => ?_) (fun h20 => ?_)
                    · have hf := q_ip h20 hf
                      refine q_blf 4 [] (a := q_kc (t, r, 0, 529, 539, (q_pE ext), (q_pR rx), L) I E 111 [some (.ref 492), some (.int (-1 : Int32))] [] [(492, r9.2.1), (497, r9.2.2.1), (529, r9.2.2.2.1), (537, r9.2.2.2.2.1), (538, r9.2.2.2.2.2)] []) (b := q_kc (t, r, 0, 529, 539, (q_pE ext), (q_pR rx), L) I E 109 [some (.ref 492), some (.int (-1 : Int32))] [] [(492, r9.2.1), (497, r9.2.2.1), (529, r9.2.2.2.1), (537, r9.2.2.2.2.1), (538, r9.2.2.2.2.2)] []) (P := ¬ (-1 : Int32) = (-1 : Int32)) ok_X15_isSingle rfl q_cn (fun h21 => ?_) (fun h21 => ?_)
                      · have hf := q_ip h21 hf
                        refine q_blk 7 [] (c' := q_kc (t, r, 0, 529, 539, (q_pE ext), (q_pR rx), L) I E 118 [some (.ref 492), some (.int (-1 : Int32))] [.ref 492] [(492, (q_up r9.2.1 9 ((r9.2.1 9) + (1 : Int32)))), (497, r9.2.2.1), (529, r9.2.2.2.1), (537, r9.2.2.2.2.1), (538, r9.2.2.2.2.2)] []) ok_X15_isSingle rfl q_cn ?_
                        obtain ⟨r22, hr22, hf⟩ := q_bd hf
                        refine q_kV (M2 := m_X15_isSum) (As := []) (b := 492) (v2 := some (.int (q_bz r22.1))) ok_X15_isSingle ok_X15_isSum cv_X15_isSum (ct_X15_isSum_492 hq_isValue hq_isSum hr22) rfl rfl (Or.inl rfl) rfl rfl rfl rfl (by omega) (Nat.le_of_ble_eq_true rfl) (Nat.le_of_ble_eq_true rfl) (Nat.le_of_ble_eq_true rfl) (fun x hx => absurd hx List.not_mem_nil) (q_nmL0 _) (q_nmS0 _) rfl (pos' := 119) (st' := [.int (q_bz r22.1)]) (lI' := [(492, r22.2.1), (497, r22.2.2.1), (529, r22.2.2.2.1), (537, r22.2.2.2.2.1), (538, r22.2.2.2.2.2)]) (lE' := []) rfl rfl rfl rfl ?_
                        refine q_blf 0 [] (a := q_kc (t, r, 0, 529, 539, (q_pE ext), (q_pR rx), L) I E 122 [some (.ref 492), some (.int (-1 : Int32))] [] [(492, r22.2.1), (497, r22.2.2.1), (529, r22.2.2.2.1), (537, r22.2.2.2.2.1), (538, r22.2.2.2.2.2)] []) (b := q_kc (t, r, 0, 529, 539, (q_pE ext), (q_pR rx), L) I E 120 [some (.ref 492), some (.int (-1 : Int32))] [] [(492, r22.2.1), (497, r22.2.2.1), (529, r22.2.2.2.1), (537, r22.2.2.2.2.1), (538, r22.2.2.2.2.2)] []) (P := ¬ (q_bz r22.1) = 0) ok_X15_isSingle rfl q_cn (fun h23 => ?_) (fun h23 => ?_)
                        · have hf := q_ip h23 hf
                          refine q_blk 2 [] (c' := q_kc (t, r, 0, 529, 539, (q_pE ext), (q_pR rx), L) I E 124 [some (.ref 492), some (.int (-1 : Int32))] [.int (-1 : Int32), .ref 492] [(492, r22.2.1), (497, r22.2.2.1), (529, r22.2.2.2.1), (537, r22.2.2.2.2.1), (538, r22.2.2.2.2.2)] []) ok_X15_isSingle rfl q_cn ?_
                          obtain ⟨r24, hr24, hf⟩ := q_bd hf
                          refine q_kV (M2 := m_X15_put) (As := [.int (-1 : Int32)]) (b := 492) (v2 := none) ok_X15_isSingle ok_X15_put cv_X15_put (ct_X15_put_492 (d := 1) (Nat.le_refl _) hr24) rfl rfl (Or.inl rfl) rfl rfl rfl rfl (by omega) (Nat.le_of_ble_eq_true rfl) (Nat.le_of_ble_eq_true rfl) (Nat.le_of_ble_eq_true rfl) (fun x hx => absurd hx List.not_mem_nil) (q_nmL0 _) (q_nmS0 _) rfl (pos' := 125) (st' := []) (lI' := [(492, r22.2.1), (497, r22.2.2.1), (529, r24.1), (537, r24.2), (538, r22.2.2.2.2.2)]) (lE' := []) rfl rfl rfl rfl ?_
                          refine q_blk 1 [] (c' := q_kc (t, r, 0, 529, 539, (q_pE ext), (q_pR rx), L) I E 126 [some (.ref 492), some (.int (-1 : Int32))] [.int (1 : Int32)] [(492, r22.2.1), (497, r22.2.2.1), (529, r24.1), (537, r24.2), (538, r22.2.2.2.2.2)] []) ok_X15_isSingle rfl q_cn ?_
                          cases hf
                          exact q_kri ok_X15_isSingle rfl rfl rfl (Nat.le_of_ble_eq_true rfl) (Nat.le_of_ble_eq_true rfl) ⟨rfl, q_hpe (q_fin [492, 497, 529, 537, 538] rfl) (q_fin [] rfl)⟩
                        · have hf := q_in h23 hf
                          refine q_blk 1 [] (c' := q_kc (t, r, 0, 529, 539, (q_pE ext), (q_pR rx), L) I E 121 [some (.ref 492), some (.int (-1 : Int32))] [.int (0 : Int32)] [(492, r22.2.1), (497, r22.2.2.1), (529, r22.2.2.2.1), (537, r22.2.2.2.2.1), (538, r22.2.2.2.2.2)] []) ok_X15_isSingle rfl q_cn ?_
                          cases hf
                          exact q_kri ok_X15_isSingle rfl rfl rfl (Nat.le_of_ble_eq_true rfl) (Nat.le_of_ble_eq_true rfl) ⟨rfl, q_hpe (q_fin [492, 497, 529, 537, 538] rfl) (q_fin [] rfl)⟩
                      · have hf := q_in h21 hf
                        refine q_blk 1 [] (c' := q_kc (t, r, 0, 529, 539, (q_pE ext), (q_pR rx), L) I E 110 [some (.ref 492), some (.int (-1 : Int32))] [.int (0 : Int32)] [(492, r9.2.1), (497, r9.2.2.1), (529, r9.2.2.2.1), (537, r9.2.2.2.2.1), (538, r9.2.2.2.2.2)] []) ok_X15_isSingle rfl q_cn ?_
                        cases hf
                        exact q_kri ok_X15_isSingle rfl rfl rfl (Nat.le_of_ble_eq_true rfl) (Nat.le_of_ble_eq_true rfl) ⟨rfl, q_hpe (q_fin [492, 497, 529, 537, 538] rfl) (q_fin [] rfl)⟩
                    · have hf := q_in h20 hf
                      refine q_blf 5 [] (a := q_kc (t, r, 0, 529, 539, (q_pE ext), (q_pR rx), L) I E 111 [some (.ref 492), some (.int (44 : Int32))] [] [(492, r9.2.1), (497, r9.2.2.1), (529, r9.2.2.2.1), (537, r9.2.2.2.2.1), (538, r9.2.2.2.2.2)] []) (b := q_kc (t, r, 0, 529, 539, (q_pE ext), (q_pR rx), L) I E 109 [some (.ref 492), some (.int (44 : Int32))] [] [(492, r9.2.1), (497, r9.2.2.1), (529, r9.2.2.2.1), (537, r9.2.2.2.2.1), (538, r9.2.2.2.2.2)] []) (P := ¬ (44 : Int32) = (-1 : Int32)) ok_X15_isSingle rfl q_cn (fun h25 => ?_) (fun h25 => ?_)
                      · have hf := q_ip h25 hf
                        refine q_blk 7 [] (c' := q_kc (t, r, 0, 529, 539, (q_pE ext), (q_pR rx), L) I E 118 [some (.ref 492), some (.int (44 : Int32))] [.ref 492] [(492, (q_up r9.2.1 9 ((r9.2.1 9) + (1 : Int32)))), (497, r9.2.2.1), (529, r9.2.2.2.1), (537, r9.2.2.2.2.1), (538, r9.2.2.2.2.2)] []) ok_X15_isSingle rfl q_cn ?_
                        obtain ⟨r26, hr26, hf⟩ := q_bd hf
                        refine q_kV (M2 := m_X15_isSum) (As := []) (b := 492) (v2 := some (.int (q_bz r26.1))) ok_X15_isSingle ok_X15_isSum cv_X15_isSum (ct_X15_isSum_492 hq_isValue hq_isSum hr26) rfl rfl (Or.inl rfl) rfl rfl rfl rfl (by omega) (Nat.le_of_ble_eq_true rfl) (Nat.le_of_ble_eq_true rfl) (Nat.le_of_ble_eq_true rfl) (fun x hx => absurd hx List.not_mem_nil) (q_nmL0 _) (q_nmS0 _) rfl (pos' := 119) (st' := [.int (q_bz r26.1)]) (lI' := [(492, r26.2.1), (497, r26.2.2.1), (529, r26.2.2.2.1), (537, r26.2.2.2.2.1), (538, r26.2.2.2.2.2)]) (lE' := []) rfl rfl rfl rfl ?_
                        refine q_blf 0 [] (a := q_kc (t, r, 0, 529, 539, (q_pE ext), (q_pR rx), L) I E 122 [some (.ref 492), some (.int (44 : Int32))] [] [(492, r26.2.1), (497, r26.2.2.1), (529, r26.2.2.2.1), (537, r26.2.2.2.2.1), (538, r26.2.2.2.2.2)] []) (b := q_kc (t, r, 0, 529, 539, (q_pE ext), (q_pR rx), L) I E 120 [some (.ref 492), some (.int (44 : Int32))] [] [(492, r26.2.1), (497, r26.2.2.1), (529, r26.2.2.2.1), (537, r26.2.2.2.2.1), (538, r26.2.2.2.2.2)] []) (P := ¬ (q_bz r26.1) = 0) ok_X15_isSingle rfl q_cn (fun h27 => ?_) (fun h27 => ?_)
                        · have hf := q_ip h27 hf
                          refine q_blk 2 [] (c' := q_kc (t, r, 0, 529, 539, (q_pE ext), (q_pR rx), L) I E 124 [some (.ref 492), some (.int (44 : Int32))] [.int (44 : Int32), .ref 492] [(492, r26.2.1), (497, r26.2.2.1), (529, r26.2.2.2.1), (537, r26.2.2.2.2.1), (538, r26.2.2.2.2.2)] []) ok_X15_isSingle rfl q_cn ?_
                          obtain ⟨r28, hr28, hf⟩ := q_bd hf
                          refine q_kV (M2 := m_X15_put) (As := [.int (44 : Int32)]) (b := 492) (v2 := none) ok_X15_isSingle ok_X15_put cv_X15_put (ct_X15_put_492 (d := 1) (Nat.le_refl _) hr28) rfl rfl (Or.inl rfl) rfl rfl rfl rfl (by omega) (Nat.le_of_ble_eq_true rfl) (Nat.le_of_ble_eq_true rfl) (Nat.le_of_ble_eq_true rfl) (fun x hx => absurd hx List.not_mem_nil) (q_nmL0 _) (q_nmS0 _) rfl (pos' := 125) (st' := []) (lI' := [(492, r26.2.1), (497, r26.2.2.1), (529, r28.1), (537, r28.2), (538, r26.2.2.2.2.2)]) (lE' := []) rfl rfl rfl rfl ?_
                          refine q_blk 1 [] (c' := q_kc (t, r, 0, 529, 539, (q_pE ext), (q_pR rx), L) I E 126 [some (.ref 492), some (.int (44 : Int32))] [.int (1 : Int32)] [(492, r26.2.1), (497, r26.2.2.1), (529, r28.1), (537, r28.2), (538, r26.2.2.2.2.2)] []) ok_X15_isSingle rfl q_cn ?_
                          cases hf
                          exact q_kri ok_X15_isSingle rfl rfl rfl (Nat.le_of_ble_eq_true rfl) (Nat.le_of_ble_eq_true rfl) ⟨rfl, q_hpe (q_fin [492, 497, 529, 537, 538] rfl) (q_fin [] rfl)⟩
                        · have hf := q_in h27 hf
                          refine q_blk 1 [] (c' := q_kc (t, r, 0, 529, 539, (q_pE ext), (q_pR rx), L) I E 121 [some (.ref 492), some (.int (44 : Int32))] [.int (0 : Int32)] [(492, r26.2.1), (497, r26.2.2.1), (529, r26.2.2.2.1), (537, r26.2.2.2.2.1), (538, r26.2.2.2.2.2)] []) ok_X15_isSingle rfl q_cn ?_
                          cases hf
                          exact q_kri ok_X15_isSingle rfl rfl rfl (Nat.le_of_ble_eq_true rfl) (Nat.le_of_ble_eq_true rfl) ⟨rfl, q_hpe (q_fin [492, 497, 529, 537, 538] rfl) (q_fin [] rfl)⟩
                      · have hf := q_in h25 hf
                        refine q_blk 1 [] (c' := q_kc (t, r, 0, 529, 539, (q_pE ext), (q_pR rx), L) I E 110 [some (.ref 492), some (.int (44 : Int32))] [.int (0 : Int32)] [(492, r9.2.1), (497, r9.2.2.1), (529, r9.2.2.2.1), (537, r9.2.2.2.2.1), (538, r9.2.2.2.2.2)] []) ok_X15_isSingle rfl q_cn ?_
                        cases hf
                        exact q_kri ok_X15_isSingle rfl rfl rfl (Nat.le_of_ble_eq_true rfl) (Nat.le_of_ble_eq_true rfl) ⟨rfl, q_hpe (q_fin [492, 497, 529, 537, 538] rfl) (q_fin [] rfl)⟩
                  · have hf := q_in h18 hf
                    refine q_blf 5 [] (a := q_kc (t, r, 0, 529, 539, (q_pE ext), (q_pR rx), L) I E 111 [some (.ref 492), some (.int (43 : Int32))] [] [(492, r9.2.1), (497, r9.2.2.1), (529, r9.2.2.2.1), (537, r9.2.2.2.2.1), (538, r9.2.2.2.2.2)] []) (b := q_kc (t, r, 0, 529, 539, (q_pE ext), (q_pR rx), L) I E 109 [some (.ref 492), some (.int (43 : Int32))] [] [(492, r9.2.1), (497, r9.2.2.1), (529, r9.2.2.2.1), (537, r9.2.2.2.2.1), (538, r9.2.2.2.2.2)] []) (P := ¬ (43 : Int32) = (-1 : Int32)) ok_X15_isSingle rfl q_cn (fun h29 => ?_) (fun h29 => ?_)
                    · have hf := q_ip h29 hf
                      refine q_blk 7 [] (c' := q_kc (t, r, 0, 529, 539, (q_pE ext), (q_pR rx), L) I E 118 [some (.ref 492), some (.int (43 : Int32))] [.ref 492] [(492, (q_up r9.2.1 9 ((r9.2.1 9) + (1 : Int32)))), (497, r9.2.2.1), (529, r9.2.2.2.1), (537, r9.2.2.2.2.1), (538, r9.2.2.2.2.2)] []) ok_X15_isSingle rfl q_cn ?_
                      obtain ⟨r30, hr30, hf⟩ := q_bd hf
                      refine q_kV (M2 := m_X15_isSum) (As := []) (b := 492) (v2 := some (.int (q_bz r30.1))) ok_X15_isSingle ok_X15_isSum cv_X15_isSum (ct_X15_isSum_492 hq_isValue hq_isSum hr30) rfl rfl (Or.inl rfl) rfl rfl rfl rfl (by omega) (Nat.le_of_ble_eq_true rfl) (Nat.le_of_ble_eq_true rfl) (Nat.le_of_ble_eq_true rfl) (fun x hx => absurd hx List.not_mem_nil) (q_nmL0 _) (q_nmS0 _) rfl (pos' := 119) (st' := [.int (q_bz r30.1)]) (lI' := [(492, r30.2.1), (497, r30.2.2.1), (529, r30.2.2.2.1), (537, r30.2.2.2.2.1), (538, r30.2.2.2.2.2)]) (lE' := []) rfl rfl rfl rfl ?_
                      refine q_blf 0 [] (a := q_kc (t, r, 0, 529, 539, (q_pE ext), (q_pR rx), L) I E 122 [some (.ref 492), some (.int (43 : Int32))] [] [(492, r30.2.1), (497, r30.2.2.1), (529, r30.2.2.2.1), (537, r30.2.2.2.2.1), (538, r30.2.2.2.2.2)] []) (b := q_kc (t, r, 0, 529, 539, (q_pE ext), (q_pR rx), L) I E 120 [some (.ref 492), some (.int (43 : Int32))] [] [(492, r30.2.1), (497, r30.2.2.1), (529, r30.2.2.2.1), (537, r30.2.2.2.2.1), (538, r30.2.2.2.2.2)] []) (P := ¬ (q_bz r30.1) = 0) ok_X15_isSingle rfl q_cn (fun h31 => ?_) (fun h31 => ?_)
                      · have hf := q_ip h31 hf
                        refine q_blk 2 [] (c' := q_kc (t, r, 0, 529, 539, (q_pE ext), (q_pR rx), L) I E 124 [some (.ref 492), some (.int (43 : Int32))] [.int (43 : Int32), .ref 492] [(492, r30.2.1), (497, r30.2.2.1), (529, r30.2.2.2.1), (537, r30.2.2.2.2.1), (538, r30.2.2.2.2.2)] []) ok_X15_isSingle rfl q_cn ?_
                        obtain ⟨r32, hr32, hf⟩ := q_bd hf
                        refine q_kV (M2 := m_X15_put) (As := [.int (43 : Int32)]) (b := 492) (v2 := none) ok_X15_isSingle ok_X15_put cv_X15_put (ct_X15_put_492 (d := 1) (Nat.le_refl _) hr32) rfl rfl (Or.inl rfl) rfl rfl rfl rfl (by omega) (Nat.le_of_ble_eq_true rfl) (Nat.le_of_ble_eq_true rfl) (Nat.le_of_ble_eq_true rfl) (fun x hx => absurd hx List.not_mem_nil) (q_nmL0 _) (q_nmS0 _) rfl (pos' := 125) (st' := []) (lI' := [(492, r30.2.1), (497, r30.2.2.1), (529, r32.1), (537, r32.2), (538, r30.2.2.2.2.2)]) (lE' := []) rfl rfl rfl rfl ?_
                        refine q_blk 1 [] (c' := q_kc (t, r, 0, 529, 539, (q_pE ext), (q_pR rx), L) I E 126 [some (.ref 492), some (.int (43 : Int32))] [.int (1 : Int32)] [(492, r30.2.1), (497, r30.2.2.1), (529, r32.1), (537, r32.2), (538, r30.2.2.2.2.2)] []) ok_X15_isSingle rfl q_cn ?_
                        cases hf
                        exact q_kri ok_X15_isSingle rfl rfl rfl (Nat.le_of_ble_eq_true rfl) (Nat.le_of_ble_eq_true rfl) ⟨rfl, q_hpe (q_fin [492, 497, 529, 537, 538] rfl) (q_fin [] rfl)⟩
                      · have hf := q_in h31 hf
                        refine q_blk 1 [] (c' := q_kc (t, r, 0, 529, 539, (q_pE ext), (q_pR rx), L) I E 121 [some (.ref 492), some (.int (43 : Int32))] [.int (0 : Int32)] [(492, r30.2.1), (497, r30.2.2.1), (529, r30.2.2.2.1), (537, r30.2.2.2.2.1), (538, r30.2.2.2.2.2)] []) ok_X15_isSingle rfl q_cn ?_
                        cases hf
                        exact q_kri ok_X15_isSingle rfl rfl rfl (Nat.le_of_ble_eq_true rfl) (Nat.le_of_ble_eq_true rfl) ⟨rfl, q_hpe (q_fin [492, 497, 529, 537, 538] rfl) (q_fin [] rfl)⟩
                    · have hf := q_in h29 hf
                      refine q_blk 1 [] (c' := q_kc (t, r, 0, 529, 539, (q_pE ext), (q_pR rx), L) I E 110 [some (.ref 492), some (.int (43 : Int32))] [.int (0 : Int32)] [(492, r9.2.1), (497, r9.2.2.1), (529, r9.2.2.2.1), (537, r9.2.2.2.2.1), (538, r9.2.2.2.2.2)] []) ok_X15_isSingle rfl q_cn ?_
                      cases hf
                      exact q_kri ok_X15_isSingle rfl rfl rfl (Nat.le_of_ble_eq_true rfl) (Nat.le_of_ble_eq_true rfl) ⟨rfl, q_hpe (q_fin [492, 497, 529, 537, 538] rfl) (q_fin [] rfl)⟩
                · have hf := q_in h16 hf
                  refine q_blf 5 [] (a := q_kc (t, r, 0, 529, 539, (q_pE ext), (q_pR rx), L) I E 111 [some (.ref 492), some (.int (42 : Int32))] [] [(492, r9.2.1), (497, r9.2.2.1), (529, r9.2.2.2.1), (537, r9.2.2.2.2.1), (538, r9.2.2.2.2.2)] []) (b := q_kc (t, r, 0, 529, 539, (q_pE ext), (q_pR rx), L) I E 109 [some (.ref 492), some (.int (42 : Int32))] [] [(492, r9.2.1), (497, r9.2.2.1), (529, r9.2.2.2.1), (537, r9.2.2.2.2.1), (538, r9.2.2.2.2.2)] []) (P := ¬ (42 : Int32) = (-1 : Int32)) ok_X15_isSingle rfl q_cn (fun h33 => ?_) (fun h33 => ?_)
                  · have hf := q_ip h33 hf
                    refine q_blk 7 [] (c' := q_kc (t, r, 0, 529, 539, (q_pE ext), (q_pR rx), L) I E 118 [some (.ref 492), some (.int (42 : Int32))] [.ref 492] [(492, (q_up r9.2.1 9 ((r9.2.1 9) + (1 : Int32)))), (497, r9.2.2.1), (529, r9.2.2.2.1), (537, r9.2.2.2.2.1), (538, r9.2.2.2.2.2)] []) ok_X15_isSingle rfl q_cn ?_
                    obtain ⟨r34, hr34, hf⟩ := q_bd hf
                    refine q_kV (M2 := m_X15_isSum) (As := []) (b := 492) (v2 := some (.int (q_bz r34.1))) ok_X15_isSingle ok_X15_isSum cv_X15_isSum (ct_X15_isSum_492 hq_isValue hq_isSum hr34) rfl rfl (Or.inl rfl) rfl rfl rfl rfl (by omega) (Nat.le_of_ble_eq_true rfl) (Nat.le_of_ble_eq_true rfl) (Nat.le_of_ble_eq_true rfl) (fun x hx => absurd hx List.not_mem_nil) (q_nmL0 _) (q_nmS0 _) rfl (pos' := 119) (st' := [.int (q_bz r34.1)]) (lI' := [(492, r34.2.1), (497, r34.2.2.1), (529, r34.2.2.2.1), (537, r34.2.2.2.2.1), (538, r34.2.2.2.2.2)]) (lE' := []) rfl rfl rfl rfl ?_
                    refine q_blf 0 [] (a := q_kc (t, r, 0, 529, 539, (q_pE ext), (q_pR rx), L) I E 122 [some (.ref 492), some (.int (42 : Int32))] [] [(492, r34.2.1), (497, r34.2.2.1), (529, r34.2.2.2.1), (537, r34.2.2.2.2.1), (538, r34.2.2.2.2.2)] []) (b := q_kc (t, r, 0, 529, 539, (q_pE ext), (q_pR rx), L) I E 120 [some (.ref 492), some (.int (42 : Int32))] [] [(492, r34.2.1), (497, r34.2.2.1), (529, r34.2.2.2.1), (537, r34.2.2.2.2.1), (538, r34.2.2.2.2.2)] []) (P := ¬ (q_bz r34.1) = 0) ok_X15_isSingle rfl q_cn (fun h35 => ?_) (fun h35 => ?_)
                    · have hf := q_ip h35 hf
                      refine q_blk 2 [] (c' := q_kc (t, r, 0, 529, 539, (q_pE ext), (q_pR rx), L) I E 124 [some (.ref 492), some (.int (42 : Int32))] [.int (42 : Int32), .ref 492] [(492, r34.2.1), (497, r34.2.2.1), (529, r34.2.2.2.1), (537, r34.2.2.2.2.1), (538, r34.2.2.2.2.2)] []) ok_X15_isSingle rfl q_cn ?_
                      obtain ⟨r36, hr36, hf⟩ := q_bd hf
                      refine q_kV (M2 := m_X15_put) (As := [.int (42 : Int32)]) (b := 492) (v2 := none) ok_X15_isSingle ok_X15_put cv_X15_put (ct_X15_put_492 (d := 1) (Nat.le_refl _) hr36) rfl rfl (Or.inl rfl) rfl rfl rfl rfl (by omega) (Nat.le_of_ble_eq_true rfl) (Nat.le_of_ble_eq_true rfl) (Nat.le_of_ble_eq_true rfl) (fun x hx => absurd hx List.not_mem_nil) (q_nmL0 _) (q_nmS0 _) rfl (pos' := 125) (st' := []) (lI' := [(492, r34.2.1), (497, r34.2.2.1), (529, r36.1), (537, r36.2), (538, r34.2.2.2.2.2)]) (lE' := []) rfl rfl rfl rfl ?_
                      refine q_blk 1 [] (c' := q_kc (t, r, 0, 529, 539, (q_pE ext), (q_pR rx), L) I E 126 [some (.ref 492), some (.int (42 : Int32))] [.int (1 : Int32)] [(492, r34.2.1), (497, r34.2.2.1), (529, r36.1), (537, r36.2), (538, r34.2.2.2.2.2)] []) ok_X15_isSingle rfl q_cn ?_
                      cases hf
                      exact q_kri ok_X15_isSingle rfl rfl rfl (Nat.le_of_ble_eq_true rfl) (Nat.le_of_ble_eq_true rfl) ⟨rfl, q_hpe (q_fin [492, 497, 529, 537, 538] rfl) (q_fin [] rfl)⟩
                    · have hf := q_in h35 hf
                      refine q_blk 1 [] (c' := q_kc (t, r, 0, 529, 539, (q_pE ext), (q_pR rx), L) I E 121 [some (.ref 492), some (.int (42 : Int32))] [.int (0 : Int32)] [(492, r34.2.1), (497, r34.2.2.1), (529, r34.2.2.2.1), (537, r34.2.2.2.2.1), (538, r34.2.2.2.2.2)] []) ok_X15_isSingle rfl q_cn ?_
                      cases hf
                      exact q_kri ok_X15_isSingle rfl rfl rfl (Nat.le_of_ble_eq_true rfl) (Nat.le_of_ble_eq_true rfl) ⟨rfl, q_hpe (q_fin [492, 497, 529, 537, 538] rfl) (q_fin [] rfl)⟩
                  · have hf := q_in h33 hf
                    refine q_blk 1 [] (c' := q_kc (t, r, 0, 529, 539, (q_pE ext), (q_pR rx), L) I E 110 [some (.ref 492), some (.int (42 : Int32))] [.int (0 : Int32)] [(492, r9.2.1), (497, r9.2.2.1), (529, r9.2.2.2.1), (537, r9.2.2.2.2.1), (538, r9.2.2.2.2.2)] []) ok_X15_isSingle rfl q_cn ?_
                    cases hf
                    exact q_kri ok_X15_isSingle rfl rfl rfl (Nat.le_of_ble_eq_true rfl) (Nat.le_of_ble_eq_true rfl) ⟨rfl, q_hpe (q_fin [492, 497, 529, 537, 538] rfl) (q_fin [] rfl)⟩
              · have hf := q_in h14 hf
                refine q_blf 5 [] (a := q_kc (t, r, 0, 529, 539, (q_pE ext), (q_pR rx), L) I E 111 [some (.ref 492), some (.int (39 : Int32))] [] [(492, r9.2.1), (497, r9.2.2.1), (529, r9.2.2.2.1), (537, r9.2.2.2.2.1), (538, r9.2.2.2.2.2)] []) (b := q_kc (t, r, 0, 529, 539, (q_pE ext), (q_pR rx), L) I E 109 [some (.ref 492), some (.int (39 : Int32))] [] [(492, r9.2.1), (497, r9.2.2.1), (529, r9.2.2.2.1), (537, r9.2.2.2.2.1), (538, r9.2.2.2.2.2)] []) (P := ¬ (39 : Int32) = (-1 : Int32)) ok_X15_isSingle rfl q_cn (fun h37 => ?_) (fun h37 => ?_)
                · have hf := q_ip h37 hf
                  refine q_blk 7 [] (c' := q_kc (t, r, 0, 529, 539, (q_pE ext), (q_pR rx), L) I E 118 [some (.ref 492), some (.int (39 : Int32))] [.ref 492] [(492, (q_up r9.2.1 9 ((r9.2.1 9) + (1 : Int32)))), (497, r9.2.2.1), (529, r9.2.2.2.1), (537, r9.2.2.2.2.1), (538, r9.2.2.2.2.2)] []) ok_X15_isSingle rfl q_cn ?_
                  obtain ⟨r38, hr38, hf⟩ := q_bd hf
                  refine q_kV (M2 := m_X15_isSum) (As := []) (b := 492) (v2 := some (.int (q_bz r38.1))) ok_X15_isSingle ok_X15_isSum cv_X15_isSum (ct_X15_isSum_492 hq_isValue hq_isSum hr38) rfl rfl (Or.inl rfl) rfl rfl rfl rfl (by omega) (Nat.le_of_ble_eq_true rfl) (Nat.le_of_ble_eq_true rfl) (Nat.le_of_ble_eq_true rfl) (fun x hx => absurd hx List.not_mem_nil) (q_nmL0 _) (q_nmS0 _) rfl (pos' := 119) (st' := [.int (q_bz r38.1)]) (lI' := [(492, r38.2.1), (497, r38.2.2.1), (529, r38.2.2.2.1), (537, r38.2.2.2.2.1), (538, r38.2.2.2.2.2)]) (lE' := []) rfl rfl rfl rfl ?_
                  refine q_blf 0 [] (a := q_kc (t, r, 0, 529, 539, (q_pE ext), (q_pR rx), L) I E 122 [some (.ref 492), some (.int (39 : Int32))] [] [(492, r38.2.1), (497, r38.2.2.1), (529, r38.2.2.2.1), (537, r38.2.2.2.2.1), (538, r38.2.2.2.2.2)] []) (b := q_kc (t, r, 0, 529, 539, (q_pE ext), (q_pR rx), L) I E 120 [some (.ref 492), some (.int (39 : Int32))] [] [(492, r38.2.1), (497, r38.2.2.1), (529, r38.2.2.2.1), (537, r38.2.2.2.2.1), (538, r38.2.2.2.2.2)] []) (P := ¬ (q_bz r38.1) = 0) ok_X15_isSingle rfl q_cn (fun h39 => ?_) (fun h39 => ?_)
                  · have hf := q_ip h39 hf
                    refine q_blk 2 [] (c' := q_kc (t, r, 0, 529, 539, (q_pE ext), (q_pR rx), L) I E 124 [some (.ref 492), some (.int (39 : Int32))] [.int (39 : Int32), .ref 492] [(492, r38.2.1), (497, r38.2.2.1), (529, r38.2.2.2.1), (537, r38.2.2.2.2.1), (538, r38.2.2.2.2.2)] []) ok_X15_isSingle rfl q_cn ?_
                    obtain ⟨r40, hr40, hf⟩ := q_bd hf
                    refine q_kV (M2 := m_X15_put) (As := [.int (39 : Int32)]) (b := 492) (v2 := none) ok_X15_isSingle ok_X15_put cv_X15_put (ct_X15_put_492 (d := 1) (Nat.le_refl _) hr40) rfl rfl (Or.inl rfl) rfl rfl rfl rfl (by omega) (Nat.le_of_ble_eq_true rfl) (Nat.le_of_ble_eq_true rfl) (Nat.le_of_ble_eq_true rfl) (fun x hx => absurd hx List.not_mem_nil) (q_nmL0 _) (q_nmS0 _) rfl (pos' := 125) (st' := []) (lI' := [(492, r38.2.1), (497, r38.2.2.1), (529, r40.1), (537, r40.2), (538, r38.2.2.2.2.2)]) (lE' := []) rfl rfl rfl rfl ?_
                    refine q_blk 1 [] (c' := q_kc (t, r, 0, 529, 539, (q_pE ext), (q_pR rx), L) I E 126 [some (.ref 492), some (.int (39 : Int32))] [.int (1 : Int32)] [(492, r38.2.1), (497, r38.2.2.1), (529, r40.1), (537, r40.2), (538, r38.2.2.2.2.2)] []) ok_X15_isSingle rfl q_cn ?_
                    cases hf
                    exact q_kri ok_X15_isSingle rfl rfl rfl (Nat.le_of_ble_eq_true rfl) (Nat.le_of_ble_eq_true rfl) ⟨rfl, q_hpe (q_fin [492, 497, 529, 537, 538] rfl) (q_fin [] rfl)⟩
                  · have hf := q_in h39 hf
                    refine q_blk 1 [] (c' := q_kc (t, r, 0, 529, 539, (q_pE ext), (q_pR rx), L) I E 121 [some (.ref 492), some (.int (39 : Int32))] [.int (0 : Int32)] [(492, r38.2.1), (497, r38.2.2.1), (529, r38.2.2.2.1), (537, r38.2.2.2.2.1), (538, r38.2.2.2.2.2)] []) ok_X15_isSingle rfl q_cn ?_
                    cases hf
                    exact q_kri ok_X15_isSingle rfl rfl rfl (Nat.le_of_ble_eq_true rfl) (Nat.le_of_ble_eq_true rfl) ⟨rfl, q_hpe (q_fin [492, 497, 529, 537, 538] rfl) (q_fin [] rfl)⟩
                · have hf := q_in h37 hf
                  refine q_blk 1 [] (c' := q_kc (t, r, 0, 529, 539, (q_pE ext), (q_pR rx), L) I E 110 [some (.ref 492), some (.int (39 : Int32))] [.int (0 : Int32)] [(492, r9.2.1), (497, r9.2.2.1), (529, r9.2.2.2.1), (537, r9.2.2.2.2.1), (538, r9.2.2.2.2.2)] []) ok_X15_isSingle rfl q_cn ?_
                  cases hf
                  exact q_kri ok_X15_isSingle rfl rfl rfl (Nat.le_of_ble_eq_true rfl) (Nat.le_of_ble_eq_true rfl) ⟨rfl, q_hpe (q_fin [492, 497, 529, 537, 538] rfl) (q_fin [] rfl)⟩
            · have hf := q_in h12 hf
              refine q_blf 5 [] (a := q_kc (t, r, 0, 529, 539, (q_pE ext), (q_pR rx), L) I E 111 [some (.ref 492), some (.int (38 : Int32))] [] [(492, r9.2.1), (497, r9.2.2.1), (529, r9.2.2.2.1), (537, r9.2.2.2.2.1), (538, r9.2.2.2.2.2)] []) (b := q_kc (t, r, 0, 529, 539, (q_pE ext), (q_pR rx), L) I E 109 [some (.ref 492), some (.int (38 : Int32))] [] [(492, r9.2.1), (497, r9.2.2.1), (529, r9.2.2.2.1), (537, r9.2.2.2.2.1), (538, r9.2.2.2.2.2)] []) (P := ¬ (38 : Int32) = (-1 : Int32)) ok_X15_isSingle rfl q_cn (fun h41 => ?_) (fun h41 => ?_)
              · have hf := q_ip h41 hf
                refine q_blk 7 [] (c' := q_kc (t, r, 0, 529, 539, (q_pE ext), (q_pR rx), L) I E 118 [some (.ref 492), some (.int (38 : Int32))] [.ref 492] [(492, (q_up r9.2.1 9 ((r9.2.1 9) + (1 : Int32)))), (497, r9.2.2.1), (529, r9.2.2.2.1), (537, r9.2.2.2.2.1), (538, r9.2.2.2.2.2)] []) ok_X15_isSingle rfl q_cn ?_
                obtain ⟨r42, hr42, hf⟩ := q_bd hf
                refine q_kV (M2 := m_X15_isSum) (As := []) (b := 492) (v2 := some (.int (q_bz r42.1))) ok_X15_isSingle ok_X15_isSum cv_X15_isSum (ct_X15_isSum_492 hq_isValue hq_isSum hr42) rfl rfl (Or.inl rfl) rfl rfl rfl rfl (by omega) (Nat.le_of_ble_eq_true rfl) (Nat.le_of_ble_eq_true rfl) (Nat.le_of_ble_eq_true rfl) (fun x hx => absurd hx List.not_mem_nil) (q_nmL0 _) (q_nmS0 _) rfl (pos' := 119) (st' := [.int (q_bz r42.1)]) (lI' := [(492, r42.2.1), (497, r42.2.2.1), (529, r42.2.2.2.1), (537, r42.2.2.2.2.1), (538, r42.2.2.2.2.2)]) (lE' := []) rfl rfl rfl rfl ?_
                refine q_blf 0 [] (a := q_kc (t, r, 0, 529, 539, (q_pE ext), (q_pR rx), L) I E 122 [some (.ref 492), some (.int (38 : Int32))] [] [(492, r42.2.1), (497, r42.2.2.1), (529, r42.2.2.2.1), (537, r42.2.2.2.2.1), (538, r42.2.2.2.2.2)] []) (b := q_kc (t, r, 0, 529, 539, (q_pE ext), (q_pR rx), L) I E 120 [some (.ref 492), some (.int (38 : Int32))] [] [(492, r42.2.1), (497, r42.2.2.1), (529, r42.2.2.2.1), (537, r42.2.2.2.2.1), (538, r42.2.2.2.2.2)] []) (P := ¬ (q_bz r42.1) = 0) ok_X15_isSingle rfl q_cn (fun h43 => ?_) (fun h43 => ?_)
                · have hf := q_ip h43 hf
                  refine q_blk 2 [] (c' := q_kc (t, r, 0, 529, 539, (q_pE ext), (q_pR rx), L) I E 124 [some (.ref 492), some (.int (38 : Int32))] [.int (38 : Int32), .ref 492] [(492, r42.2.1), (497, r42.2.2.1), (529, r42.2.2.2.1), (537, r42.2.2.2.2.1), (538, r42.2.2.2.2.2)] []) ok_X15_isSingle rfl q_cn ?_
                  obtain ⟨r44, hr44, hf⟩ := q_bd hf
                  refine q_kV (M2 := m_X15_put) (As := [.int (38 : Int32)]) (b := 492) (v2 := none) ok_X15_isSingle ok_X15_put cv_X15_put (ct_X15_put_492 (d := 1) (Nat.le_refl _) hr44) rfl rfl (Or.inl rfl) rfl rfl rfl rfl (by omega) (Nat.le_of_ble_eq_true rfl) (Nat.le_of_ble_eq_true rfl) (Nat.le_of_ble_eq_true rfl) (fun x hx => absurd hx List.not_mem_nil) (q_nmL0 _) (q_nmS0 _) rfl (pos' := 125) (st' := []) (lI' := [(492, r42.2.1), (497, r42.2.2.1), (529, r44.1), (537, r44.2), (538, r42.2.2.2.2.2)]) (lE' := []) rfl rfl rfl rfl ?_
                  refine q_blk 1 [] (c' := q_kc (t, r, 0, 529, 539, (q_pE ext), (q_pR rx), L) I E 126 [some (.ref 492), some (.int (38 : Int32))] [.int (1 : Int32)] [(492, r42.2.1), (497, r42.2.2.1), (529, r44.1), (537, r44.2), (538, r42.2.2.2.2.2)] []) ok_X15_isSingle rfl q_cn ?_
                  cases hf
                  exact q_kri ok_X15_isSingle rfl rfl rfl (Nat.le_of_ble_eq_true rfl) (Nat.le_of_ble_eq_true rfl) ⟨rfl, q_hpe (q_fin [492, 497, 529, 537, 538] rfl) (q_fin [] rfl)⟩
                · have hf := q_in h43 hf
                  refine q_blk 1 [] (c' := q_kc (t, r, 0, 529, 539, (q_pE ext), (q_pR rx), L) I E 121 [some (.ref 492), some (.int (38 : Int32))] [.int (0 : Int32)] [(492, r42.2.1), (497, r42.2.2.1), (529, r42.2.2.2.1), (537, r42.2.2.2.2.1), (538, r42.2.2.2.2.2)] []) ok_X15_isSingle rfl q_cn ?_
                  cases hf
                  exact q_kri ok_X15_isSingle rfl rfl rfl (Nat.le_of_ble_eq_true rfl) (Nat.le_of_ble_eq_true rfl) ⟨rfl, q_hpe (q_fin [492, 497, 529, 537, 538] rfl) (q_fin [] rfl)⟩
              · have hf := q_in h41 hf
                refine q_blk 1 [] (c' := q_kc (t, r, 0, 529, 539, (q_pE ext), (q_pR rx), L) I E 110 [some (.ref 492), some (.int (38 : Int32))] [.int (0 : Int32)] [(492, r9.2.1), (497, r9.2.2.1), (529, r9.2.2.2.1), (537, r9.2.2.2.2.1), (538, r9.2.2.2.2.2)] []) ok_X15_isSingle rfl q_cn ?_
                cases hf
                exact q_kri ok_X15_isSingle rfl rfl rfl (Nat.le_of_ble_eq_true rfl) (Nat.le_of_ble_eq_true rfl) ⟨rfl, q_hpe (q_fin [492, 497, 529, 537, 538] rfl) (q_fin [] rfl)⟩
          · have hf := q_in h10 hf
            refine q_blk 1 [] (c' := q_kc (t, r, 0, 529, 539, (q_pE ext), (q_pR rx), L) I E 73 [some (.ref 492), none] [.int (0 : Int32)] [(492, r9.2.1), (497, r9.2.2.1), (529, r9.2.2.2.1), (537, r9.2.2.2.2.1), (538, r9.2.2.2.2.2)] []) ok_X15_isSingle rfl q_cn ?_
            cases hf
            exact q_kri ok_X15_isSingle rfl rfl rfl (Nat.le_of_ble_eq_true rfl) (Nat.le_of_ble_eq_true rfl) ⟨rfl, q_hpe (q_fin [492, 497, 529, 537, 538] rfl) (q_fin [] rfl)⟩
        · have hf := q_in h8 hf
          refine q_blk 2 [] (c' := q_kc (t, r, 0, 529, 539, (q_pE ext), (q_pR rx), L) I E 59 [some (.ref 492), none] [.int (5 : Int32), .ref 492] [] []) ok_X15_isSingle rfl q_cn ?_
          obtain ⟨r45, hr45, hf⟩ := q_bd hf
          refine q_kV (M2 := m_X15_isNamed) (As := [.int (5 : Int32)]) (b := 492) (v2 := some (.int (q_bz r45.1))) ok_X15_isSingle ok_X15_isNamed cv_X15_isNamed (ct_X15_isNamed_492 (d := 5) (Nat.le_refl _) hr45) rfl rfl (Or.inl rfl) rfl rfl rfl rfl (by omega) (Nat.le_of_ble_eq_true rfl) (Nat.le_of_ble_eq_true rfl) (Nat.le_of_ble_eq_true rfl) (fun x hx => absurd hx List.not_mem_nil) (q_nmL0 _) (q_nmS0 _) rfl (pos' := 60) (st' := [.int (q_bz r45.1)]) (lI' := [(492, r45.2.1), (497, r45.2.2.1), (529, r45.2.2.2.1), (537, r45.2.2.2.2.1), (538, r45.2.2.2.2.2)]) (lE' := []) rfl rfl rfl rfl ?_
          refine q_blf 0 [] (a := q_kc (t, r, 0, 529, 539, (q_pE ext), (q_pR rx), L) I E 67 [some (.ref 492), none] [] [(492, r45.2.1), (497, r45.2.2.1), (529, r45.2.2.2.1), (537, r45.2.2.2.2.1), (538, r45.2.2.2.2.2)] []) (b := q_kc (t, r, 0, 529, 539, (q_pE ext), (q_pR rx), L) I E 61 [some (.ref 492), none] [] [(492, r45.2.1), (497, r45.2.2.1), (529, r45.2.2.2.1), (537, r45.2.2.2.2.1), (538, r45.2.2.2.2.2)] []) (P := (q_bz r45.1) = 0) ok_X15_isSingle rfl q_cn (fun h46 => ?_) (fun h46 => ?_)
          · have hf := q_ip h46 hf
            refine q_blk 1 [] (c' := q_kc (t, r, 0, 529, 539, (q_pE ext), (q_pR rx), L) I E 68 [some (.ref 492), none] [.int (0 : Int32)] [(492, r45.2.1), (497, r45.2.2.1), (529, r45.2.2.2.1), (537, r45.2.2.2.2.1), (538, r45.2.2.2.2.2)] []) ok_X15_isSingle rfl q_cn ?_
            cases hf
            exact q_kri ok_X15_isSingle rfl rfl rfl (Nat.le_of_ble_eq_true rfl) (Nat.le_of_ble_eq_true rfl) ⟨rfl, q_hpe (q_fin [492, 497, 529, 537, 538] rfl) (q_fin [] rfl)⟩
          · have hf := q_in h46 hf
            refine q_blk 2 [] (c' := q_kc (t, r, 0, 529, 539, (q_pE ext), (q_pR rx), L) I E 63 [some (.ref 492), none] [.int (5 : Int32), .ref 492] [(492, r45.2.1), (497, r45.2.2.1), (529, r45.2.2.2.1), (537, r45.2.2.2.2.1), (538, r45.2.2.2.2.2)] []) ok_X15_isSingle rfl q_cn ?_
            obtain ⟨r47, hr47, hf⟩ := q_bd hf
            refine q_kV (M2 := m_X15_isName) (As := [.int (5 : Int32)]) (b := 492) (v2 := some (.int (q_bz r47.1))) ok_X15_isSingle ok_X15_isName cv_X15_isName (ct_X15_isName_492 (d := 4) (Nat.le_refl _) hr47) rfl rfl (Or.inl rfl) rfl rfl rfl rfl (by omega) (Nat.le_of_ble_eq_true rfl) (Nat.le_of_ble_eq_true rfl) (Nat.le_of_ble_eq_true rfl) (fun x hx => absurd hx List.not_mem_nil) (q_nmL0 _) (q_nmS0 _) rfl (pos' := 64) (st' := [.int (q_bz r47.1)]) (lI' := [(492, r47.2.1), (497, r47.2.2.1), (529, r47.2.2.2.1), (537, r47.2.2.2.2.1), (538, r47.2.2.2.2.2)]) (lE' := []) rfl rfl rfl rfl ?_
            refine q_blf 0 [] (a := q_kc (t, r, 0, 529, 539, (q_pE ext), (q_pR rx), L) I E 67 [some (.ref 492), none] [] [(492, r47.2.1), (497, r47.2.2.1), (529, r47.2.2.2.1), (537, r47.2.2.2.2.1), (538, r47.2.2.2.2.2)] []) (b := q_kc (t, r, 0, 529, 539, (q_pE ext), (q_pR rx), L) I E 65 [some (.ref 492), none] [] [(492, r47.2.1), (497, r47.2.2.1), (529, r47.2.2.2.1), (537, r47.2.2.2.2.1), (538, r47.2.2.2.2.2)] []) (P := (q_bz r47.1) = 0) ok_X15_isSingle rfl q_cn (fun h48 => ?_) (fun h48 => ?_)
            · have hf := q_ip h48 hf
              refine q_blk 1 [] (c' := q_kc (t, r, 0, 529, 539, (q_pE ext), (q_pR rx), L) I E 68 [some (.ref 492), none] [.int (0 : Int32)] [(492, r47.2.1), (497, r47.2.2.1), (529, r47.2.2.2.1), (537, r47.2.2.2.2.1), (538, r47.2.2.2.2.2)] []) ok_X15_isSingle rfl q_cn ?_
              cases hf
              exact q_kri ok_X15_isSingle rfl rfl rfl (Nat.le_of_ble_eq_true rfl) (Nat.le_of_ble_eq_true rfl) ⟨rfl, q_hpe (q_fin [492, 497, 529, 537, 538] rfl) (q_fin [] rfl)⟩
            · have hf := q_in h48 hf
              refine q_blk 2 [] (c' := q_kc (t, r, 0, 529, 539, (q_pE ext), (q_pR rx), L) I E 68 [some (.ref 492), none] [.int (1 : Int32)] [(492, r47.2.1), (497, r47.2.2.1), (529, r47.2.2.2.1), (537, r47.2.2.2.2.1), (538, r47.2.2.2.2.2)] []) ok_X15_isSingle rfl q_cn ?_
              cases hf
              exact q_kri ok_X15_isSingle rfl rfl rfl (Nat.le_of_ble_eq_true rfl) (Nat.le_of_ble_eq_true rfl) ⟨rfl, q_hpe (q_fin [492, 497, 529, 537, 538] rfl) (q_fin [] rfl)⟩
      · have hf := q_in h6 hf
        refine q_blk 2 [] (c' := q_kc (t, r, 0, 529, 539, (q_pE ext), (q_pR rx), L) I E 51 [some (.ref 492), none] [.int (5 : Int32), .ref 492] [] []) ok_X15_isSingle rfl q_cn ?_
        obtain ⟨r49, hr49, hf⟩ := q_bd hf
        refine q_kV (M2 := m_X15_isNamed) (As := [.int (5 : Int32)]) (b := 492) (v2 := some (.int (q_bz r49.1))) ok_X15_isSingle ok_X15_isNamed cv_X15_isNamed (ct_X15_isNamed_492 (d := 5) (Nat.le_refl _) hr49) rfl rfl (Or.inl rfl) rfl rfl rfl rfl (by omega) (Nat.le_of_ble_eq_true rfl) (Nat.le_of_ble_eq_true rfl) (Nat.le_of_ble_eq_true rfl) (fun x hx => absurd hx List.not_mem_nil) (q_nmL0 _) (q_nmS0 _) rfl (pos' := 52) (st' := [.int (q_bz r49.1)]) (lI' := [(492, r49.2.1), (497, r49.2.2.1), (529, r49.2.2.2.1), (537, r49.2.2.2.2.1), (538, r49.2.2.2.2.2)]) (lE' := []) rfl rfl rfl rfl ?_
        cases hf
        exact q_kri ok_X15_isSingle rfl rfl (q_bz_nr _) (Nat.le_of_ble_eq_true rfl) (Nat.le_of_ble_eq_true rfl) ⟨rfl, q_hpe (q_fin [492, 497, 529, 537, 538] rfl) (q_fin [] rfl)⟩
    · have hf := q_in h4 hf
      refine q_blk 1 [] (c' := q_kc (t, r, 0, 529, 539, (q_pE ext), (q_pR rx), L) I E 28 [some (.ref 492), none] [.ref 492] [] []) ok_X15_isSingle rfl q_cn ?_
      obtain ⟨r50, hr50, hf⟩ := q_bd hf
      refine q_kV (M2 := m_X15_isDeeper) (As := []) (b := 492) (v2 := some (.int (q_bz r50.1))) ok_X15_isSingle ok_X15_isDeeper cv_X15_isDeeper (ct_X15_isDeeper_492 (d := 1) (Nat.le_refl _) hr50) rfl rfl (Or.inl rfl) rfl rfl rfl rfl (by omega) (Nat.le_of_ble_eq_true rfl) (Nat.le_of_ble_eq_true rfl) (Nat.le_of_ble_eq_true rfl) (fun x hx => absurd hx List.not_mem_nil) (q_nmL0 _) (q_nmS0 _) rfl (pos' := 29) (st' := [.int (q_bz r50.1)]) (lI' := [(492, r50.2)]) (lE' := []) rfl rfl rfl rfl ?_
      refine q_blf 0 [] (a := q_kc (t, r, 0, 529, 539, (q_pE ext), (q_pR rx), L) I E 33 [some (.ref 492), none] [] [(492, r50.2)] []) (b := q_kc (t, r, 0, 529, 539, (q_pE ext), (q_pR rx), L) I E 30 [some (.ref 492), none] [] [(492, r50.2)] []) (P := (q_bz r50.1) = 0) ok_X15_isSingle rfl q_cn (fun h51 => ?_) (fun h51 => ?_)
      · have hf := q_ip h51 hf
        refine q_blk 1 [] (c' := q_kc (t, r, 0, 529, 539, (q_pE ext), (q_pR rx), L) I E 34 [some (.ref 492), none] [.int (0 : Int32)] [(492, r50.2)] []) ok_X15_isSingle rfl q_cn ?_
        cases hf
        exact q_kri ok_X15_isSingle rfl rfl rfl (Nat.le_of_ble_eq_true rfl) (Nat.le_of_ble_eq_true rfl) ⟨rfl, q_hpe (q_fin [492, 497, 529, 537, 538] rfl) (q_fin [] rfl)⟩
      · have hf := q_in h51 hf
        refine q_blk 1 [] (c' := q_kc (t, r, 0, 529, 539, (q_pE ext), (q_pR rx), L) I E 31 [some (.ref 492), none] [.ref 492] [(492, r50.2)] []) ok_X15_isSingle rfl q_cn ?_
        obtain ⟨r52, hr52, hf⟩ := q_bd hf
        refine q_kV (M2 := m_X15_isTest) (As := []) (b := 492) (v2 := some (.int (q_bz r52.1))) ok_X15_isSingle ok_X15_isTest cv_X15_isTest (hq_isTest hr52) rfl rfl (Or.inl rfl) rfl rfl rfl rfl (by omega) (Nat.le_of_ble_eq_true rfl) (Nat.le_of_ble_eq_true rfl) (Nat.le_of_ble_eq_true rfl) (fun x hx => absurd hx List.not_mem_nil) (q_nmL0 _) (q_nmS0 _) rfl (pos' := 32) (st' := [.int (q_bz r52.1)]) (lI' := [(492, r52.2.1), (497, r52.2.2.1), (529, r52.2.2.2.1), (537, r52.2.2.2.2.1), (538, r52.2.2.2.2.2)]) (lE' := []) rfl rfl rfl rfl ?_
        refine q_blf 0 [] (a := q_kc (t, r, 0, 529, 539, (q_pE ext), (q_pR rx), L) I E 35 [some (.ref 492), none] [] [(492, r52.2.1), (497, r52.2.2.1), (529, r52.2.2.2.1), (537, r52.2.2.2.2.1), (538, r52.2.2.2.2.2)] []) (b := q_kc (t, r, 0, 529, 539, (q_pE ext), (q_pR rx), L) I E 33 [some (.ref 492), none] [] [(492, r52.2.1), (497, r52.2.2.1), (529, r52.2.2.2.1), (537, r52.2.2.2.2.1), (538, r52.2.2.2.2.2)] []) (P := ¬ (q_bz r52.1) = 0) ok_X15_isSingle rfl q_cn (fun h53 => ?_) (fun h53 => ?_)
        · have hf := q_ip h53 hf
          refine q_blk 8 [] (c' := q_kc (t, r, 0, 529, 539, (q_pE ext), (q_pR rx), L) I E 43 [some (.ref 492), none] [.int (93 : Int32), .ref 492] [(492, (q_up r52.2.1 10 ((r52.2.1 10) - (1 : Int32)))), (497, r52.2.2.1), (529, r52.2.2.2.1), (537, r52.2.2.2.2.1), (538, r52.2.2.2.2.2)] []) ok_X15_isSingle rfl q_cn ?_
          obtain ⟨r54, hr54, hf⟩ := q_bd hf
          refine q_kV (M2 := m_X15_eatSign) (As := [.int (93 : Int32)]) (b := 492) (v2 := some (.int (q_bz r54.1))) ok_X15_isSingle ok_X15_eatSign cv_X15_eatSign (ct_X15_eatSign_492 (d := 3) (Nat.le_refl _) hr54) rfl rfl (Or.inl rfl) rfl rfl rfl rfl (by omega) (Nat.le_of_ble_eq_true rfl) (Nat.le_of_ble_eq_true rfl) (Nat.le_of_ble_eq_true rfl) (fun x hx => absurd hx List.not_mem_nil) (q_nmL0 _) (q_nmS0 _) rfl (pos' := 44) (st' := [.int (q_bz r54.1)]) (lI' := [(492, r54.2), (497, r52.2.2.1), (529, r52.2.2.2.1), (537, r52.2.2.2.2.1), (538, r52.2.2.2.2.2)]) (lE' := []) rfl rfl rfl rfl ?_
          cases hf
          exact q_kri ok_X15_isSingle rfl rfl (q_bz_nr _) (Nat.le_of_ble_eq_true rfl) (Nat.le_of_ble_eq_true rfl) ⟨rfl, q_hpe (q_fin [492, 497, 529, 537, 538] rfl) (q_fin [] rfl)⟩
        · have hf := q_in h53 hf
          refine q_blk 1 [] (c' := q_kc (t, r, 0, 529, 539, (q_pE ext), (q_pR rx), L) I E 34 [some (.ref 492), none] [.int (0 : Int32)] [(492, r52.2.1), (497, r52.2.2.1), (529, r52.2.2.2.1), (537, r52.2.2.2.2.1), (538, r52.2.2.2.2.2)] []) ok_X15_isSingle rfl q_cn ?_
          cases hf
          exact q_kri ok_X15_isSingle rfl rfl rfl (Nat.le_of_ble_eq_true rfl) (Nat.le_of_ble_eq_true rfl) ⟨rfl, q_hpe (q_fin [492, 497, 529, 537, 538] rfl) (q_fin [] rfl)⟩
  · have hf := q_in h2 hf
    refine q_blk 1 [] (c' := q_kc (t, r, 0, 529, 539, (q_pE ext), (q_pR rx), L) I E 5 [some (.ref 492), none] [.ref 492] [] []) ok_X15_isSingle rfl q_cn ?_
    obtain ⟨r55, hr55, hf⟩ := q_bd hf
    refine q_kV (M2 := m_X15_isDeeper) (As := []) (b := 492) (v2 := some (.int (q_bz r55.1))) ok_X15_isSingle ok_X15_isDeeper cv_X15_isDeeper (ct_X15_isDeeper_492 (d := 1) (Nat.le_refl _) hr55) rfl rfl (Or.inl rfl) rfl rfl rfl rfl (by omega) (Nat.le_of_ble_eq_true rfl) (Nat.le_of_ble_eq_true rfl) (Nat.le_of_ble_eq_true rfl) (fun x hx => absurd hx List.not_mem_nil) (q_nmL0 _) (q_nmS0 _) rfl (pos' := 6) (st' := [.int (q_bz r55.1)]) (lI' := [(492, r55.2)]) (lE' := []) rfl rfl rfl rfl ?_
    refine q_blf 0 [] (a := q_kc (t, r, 0, 529, 539, (q_pE ext), (q_pR rx), L) I E 10 [some (.ref 492), none] [] [(492, r55.2)] []) (b := q_kc (t, r, 0, 529, 539, (q_pE ext), (q_pR rx), L) I E 7 [some (.ref 492), none] [] [(492, r55.2)] []) (P := (q_bz r55.1) = 0) ok_X15_isSingle rfl q_cn (fun h56 => ?_) (fun h56 => ?_)
    · have hf := q_ip h56 hf
      refine q_blk 1 [] (c' := q_kc (t, r, 0, 529, 539, (q_pE ext), (q_pR rx), L) I E 11 [some (.ref 492), none] [.int (0 : Int32)] [(492, r55.2)] []) ok_X15_isSingle rfl q_cn ?_
      cases hf
      exact q_kri ok_X15_isSingle rfl rfl rfl (Nat.le_of_ble_eq_true rfl) (Nat.le_of_ble_eq_true rfl) ⟨rfl, q_hpe (q_fin [492, 497, 529, 537, 538] rfl) (q_fin [] rfl)⟩
    · have hf := q_in h56 hf
      refine q_blk 1 [] (c' := q_kc (t, r, 0, 529, 539, (q_pE ext), (q_pR rx), L) I E 8 [some (.ref 492), none] [.ref 492] [(492, r55.2)] []) ok_X15_isSingle rfl q_cn ?_
      obtain ⟨r57, hr57, hf⟩ := q_bd hf
      refine q_kV (M2 := m_X15_isSingle) (As := []) (b := 492) (v2 := some (.int (q_bz r57.1))) ok_X15_isSingle ok_X15_isSingle cv_X15_isSingle (hq_isSingle hr57) rfl rfl (Or.inl rfl) rfl rfl rfl rfl (by omega) (Nat.le_of_ble_eq_true rfl) (Nat.le_of_ble_eq_true rfl) (Nat.le_of_ble_eq_true rfl) (fun x hx => absurd hx List.not_mem_nil) (q_nmL0 _) (q_nmS0 _) rfl (pos' := 9) (st' := [.int (q_bz r57.1)]) (lI' := [(492, r57.2.1), (497, r57.2.2.1), (529, r57.2.2.2.1), (537, r57.2.2.2.2.1), (538, r57.2.2.2.2.2)]) (lE' := []) rfl rfl rfl rfl ?_
      refine q_blf 0 [] (a := q_kc (t, r, 0, 529, 539, (q_pE ext), (q_pR rx), L) I E 12 [some (.ref 492), none] [] [(492, r57.2.1), (497, r57.2.2.1), (529, r57.2.2.2.1), (537, r57.2.2.2.2.1), (538, r57.2.2.2.2.2)] []) (b := q_kc (t, r, 0, 529, 539, (q_pE ext), (q_pR rx), L) I E 10 [some (.ref 492), none] [] [(492, r57.2.1), (497, r57.2.2.1), (529, r57.2.2.2.1), (537, r57.2.2.2.2.1), (538, r57.2.2.2.2.2)] []) (P := ¬ (q_bz r57.1) = 0) ok_X15_isSingle rfl q_cn (fun h58 => ?_) (fun h58 => ?_)
      · have hf := q_ip h58 hf
        refine q_blk 8 [] (c' := q_kc (t, r, 0, 529, 539, (q_pE ext), (q_pR rx), L) I E 20 [some (.ref 492), none] [.int (24 : Int32), .ref 492] [(492, (q_up r57.2.1 10 ((r57.2.1 10) - (1 : Int32)))), (497, r57.2.2.1), (529, r57.2.2.2.1), (537, r57.2.2.2.2.1), (538, r57.2.2.2.2.2)] []) ok_X15_isSingle rfl q_cn ?_
        obtain ⟨r59, hr59, hf⟩ := q_bd hf
        refine q_kV (M2 := m_X15_put) (As := [.int (24 : Int32)]) (b := 492) (v2 := none) ok_X15_isSingle ok_X15_put cv_X15_put (ct_X15_put_492 (d := 1) (Nat.le_refl _) hr59) rfl rfl (Or.inl rfl) rfl rfl rfl rfl (by omega) (Nat.le_of_ble_eq_true rfl) (Nat.le_of_ble_eq_true rfl) (Nat.le_of_ble_eq_true rfl) (fun x hx => absurd hx List.not_mem_nil) (q_nmL0 _) (q_nmS0 _) rfl (pos' := 21) (st' := []) (lI' := [(492, (q_up r57.2.1 10 ((r57.2.1 10) - (1 : Int32)))), (497, r57.2.2.1), (529, r59.1), (537, r59.2), (538, r57.2.2.2.2.2)]) (lE' := []) rfl rfl rfl rfl ?_
        refine q_blk 1 [] (c' := q_kc (t, r, 0, 529, 539, (q_pE ext), (q_pR rx), L) I E 22 [some (.ref 492), none] [.int (1 : Int32)] [(492, (q_up r57.2.1 10 ((r57.2.1 10) - (1 : Int32)))), (497, r57.2.2.1), (529, r59.1), (537, r59.2), (538, r57.2.2.2.2.2)] []) ok_X15_isSingle rfl q_cn ?_
        cases hf
        exact q_kri ok_X15_isSingle rfl rfl rfl (Nat.le_of_ble_eq_true rfl) (Nat.le_of_ble_eq_true rfl) ⟨rfl, q_hpe (q_fin [492, 497, 529, 537, 538] rfl) (q_fin [] rfl)⟩
      · have hf := q_in h58 hf
        refine q_blk 1 [] (c' := q_kc (t, r, 0, 529, 539, (q_pE ext), (q_pR rx), L) I E 11 [some (.ref 492), none] [.int (0 : Int32)] [(492, r57.2.1), (497, r57.2.2.1), (529, r57.2.2.2.1), (537, r57.2.2.2.2.1), (538, r57.2.2.2.2.2)] []) ok_X15_isSingle rfl q_cn ?_
        cases hf
        exact q_kri ok_X15_isSingle rfl rfl rfl (Nat.le_of_ble_eq_true rfl) (Nat.le_of_ble_eq_true rfl) ⟨rfl, q_hpe (q_fin [492, 497, 529, 537, 538] rfl) (q_fin [] rfl)⟩
set_option maxHeartbeats 4000000 in
theorem lp_X15_isBoth_L5_492 {g : q_G} {dR mc ms : Nat} {h0 : q_H} {Q : (Option Value ⊕ String) → q_H → Prop} {k n : Nat} {t : Nat} {r : Nat} {ext : Nat → q_Sh} {rx : Nat → Nat → Option Nat} {L : Nat → Nat → Int64} (hk : k ≤ mc) (hn : n ≤ ms)  {r_isSingle : (Nat → Int32) → (Nat → Int32) → (Nat → Int32) → (Nat → Int32) → (Nat → Int32) → (Nat → Int32) → (Nat → Int32) → (Nat → Int32) → (Nat → Int32) → Option (Bool × (Nat → Int32) × (Nat → Int32) × (Nat → Int32) × (Nat → Int32) × (Nat → Int32))} (hq_isSingle : ∀ {I : Nat → Nat → Int32} {E : Nat → Nat → Option Nat} {r0 : Bool × (Nat → Int32) × (Nat → Int32) × (Nat → Int32) × (Nat → Int32) × (Nat → Int32)}, r_isSingle ((I 492)) ((I 493)) ((I 494)) ((I 495)) ((I 496)) ((I 497)) ((I 529)) ((I 537)) ((I 538)) = some r0 → q_Ct g m_X15_isSingle dR 0 0 [] [.ref 492] (q_hp (t, r, 0, 529, 539, (q_pE ext), (q_pR rx), L) I E) (fun o h' => o = .inl (some (.int (q_bz r0.1))) ∧ h' = q_hp (t, r, 0, 529, 539, (q_pE ext), (q_pR rx), L) (q_ws I [(492, r0.2.1), (497, r0.2.2.1), (529, r0.2.2.2.1), (537, r0.2.2.2.2.1), (538, r0.2.2.2.2.2)]) (q_ws E []))) {r_isTest : (Nat → Int32) → (Nat → Int32) → (Nat → Int32) → (Nat → Int32) → (Nat → Int32) → (Nat → Int32) → (Nat → Int32) → (Nat → Int32) → (Nat → Int32) → Option (Bool × (Nat → Int32) × (Nat → Int32) × (Nat → Int32) × (Nat → Int32) × (Nat → Int32))} (hq_isTest : ∀ {I : Nat → Nat → Int32} {E : Nat → Nat → Option Nat} {r0 : Bool × (Nat → Int32) × (Nat → Int32) × (Nat → Int32) × (Nat → Int32) × (Nat → Int32)}, r_isTest ((I 492)) ((I 493)) ((I 494)) ((I 495)) ((I 496)) ((I 497)) ((I 529)) ((I 537)) ((I 538)) = some r0 → q_Ct g m_X15_isTest dR 0 0 [] [.ref 492] (q_hp (t, r, 0, 529, 539, (q_pE ext), (q_pR rx), L) I E) (fun o h' => o = .inl (some (.int (q_bz r0.1))) ∧ h' = q_hp (t, r, 0, 529, 539, (q_pE ext), (q_pR rx), L) (q_ws I [(492, r0.2.1), (497, r0.2.2.1), (529, r0.2.2.2.1), (537, r0.2.2.2.2.1), (538, r0.2.2.2.2.2)]) (q_ws E []))) {r_isValue : (Nat → Int32) → (Nat → Int32) → (Nat → Int32) → (Nat → Int32) → (Nat → Int32) → (Nat → Int32) → (Nat → Int32) → (Nat → Int32) → (Nat → Int32) → Option (Bool × (Nat → Int32) × (Nat → Int32) × (Nat → Int32) × (Nat → Int32) × (Nat → Int32))} (hq_isValue : ∀ {I : Nat → Nat → Int32} {E : Nat → Nat → Option Nat} {r0 : Bool × (Nat → Int32) × (Nat → Int32) × (Nat → Int32) × (Nat → Int32) × (Nat → Int32)}, r_isValue ((I 492)) ((I 493)) ((I 494)) ((I 495)) ((I 496)) ((I 497)) ((I 529)) ((I 537)) ((I 538)) = some r0 → q_Ct g m_X15_isValue dR 0 0 [] [.ref 492] (q_hp (t, r, 0, 529, 539, (q_pE ext), (q_pR rx), L) I E) (fun o h' => o = .inl (some (.int (q_bz r0.1))) ∧ h' = q_hp (t, r, 0, 529, 539, (q_pE ext), (q_pR rx), L) (q_ws I [(492, r0.2.1), (497, r0.2.2.1), (529, r0.2.2.2.1), (537, r0.2.2.2.2.1), (538, r0.2.2.2.2.2)]) (q_ws E []))) {r_isSum : (Nat → Int32) → (Nat → Int32) → (Nat → Int32) → (Nat → Int32) → (Nat → Int32) → (Nat → Int32) → (Nat → Int32) → (Nat → Int32) → (Nat → Int32) → Option (Bool × (Nat → Int32) × (Nat → Int32) × (Nat → Int32) × (Nat → Int32) × (Nat → Int32))} (hq_isSum : ∀ {I : Nat → Nat → Int32} {E : Nat → Nat → Option Nat} {r0 : Bool × (Nat → Int32) × (Nat → Int32) × (Nat → Int32) × (Nat → Int32) × (Nat → Int32)}, r_isSum ((I 492)) ((I 493)) ((I 494)) ((I 495)) ((I 496)) ((I 497)) ((I 529)) ((I 537)) ((I 538)) = some r0 → q_Ct g m_X15_isSum dR 0 0 [] [.ref 492] (q_hp (t, r, 0, 529, 539, (q_pE ext), (q_pR rx), L) I E) (fun o h' => o = .inl (some (.int (q_bz r0.1))) ∧ h' = q_hp (t, r, 0, 529, 539, (q_pE ext), (q_pR rx), L) (q_ws I [(492, r0.2.1), (497, r0.2.2.1), (529, r0.2.2.2.1), (537, r0.2.2.2.2.1), (538, r0.2.2.2.2.2)]) (q_ws E []))) : ∀ (fu : Nat) {I : Nat → Nat → Int32} {E : Nat → Nat → Option Nat} {r0 : Nat × (Nat → Int32) × (Nat → Int32) × (Nat → Int32) × (Nat → Int32) × (Nat → Int32)} (hf : f_X15_isBoth_L5 r_isSingle r_isTest r_isValue r_isSum (I 493) (I 494) (I 495) (I 496) fu (I 492) (I 497) (I 529) (I 537) (I 538) = some r0) (hK0 : r0.1 = 0 → q_J g m_X15_isBoth (dR + 9) mc ms h0 [] Q k n (q_kc (t, r, 0, 529, 539, (q_pE ext), (q_pR rx), L) I E 18 [none] [] [(492, r0.2.1), (497, r0.2.2.1), (529, r0.2.2.2.1), (537, r0.2.2.2.2.1), (538, r0.2.2.2.2.2)] [])) (hK1 : r0.1 = 1 → q_J g m_X15_isBoth (dR + 9) mc ms h0 [] Q k n (q_kc (t, r, 0, 529, 539, (q_pE ext), (q_pR rx), L) I E 12 [none] [] [(492, r0.2.1), (497, r0.2.2.1), (529, r0.2.2.2.1), (537, r0.2.2.2.2.1), (538, r0.2.2.2.2.2)] [])), q_J g m_X15_isBoth (dR + 9) mc ms h0 [] Q k n (5, [some (.ref 492)], [], q_hp (t, r, 0, 529, 539, (q_pE ext), (q_pR rx), L) I E) := by
  intro fu
  induction fu with
  | zero =>
    intro I E r0 hf hK0 hK1
    rw [f_X15_isBoth_L5] at hf
    cases hf
  | succ fu ih =>
    intro I E r0 hf hK0 hK1
    rw [f_X15_isBoth_L5] at hf
    change q_J g m_X15_isBoth (dR + 9) mc ms h0 [] Q k n (q_kc (t, r, 0, 529, 539, (q_pE ext), (q_pR rx), L) I E 5 [some (.ref 492)] [] [] [])
    refine q_blk 2 [] (c' := q_kc (t, r, 0, 529, 539, (q_pE ext), (q_pR rx), L) I E 7 [some (.ref 492)] [.int (25 : Int32), .ref 492] [] []) ok_X15_isBoth rfl q_cn ?_
    obtain ⟨r1, hr1, hf⟩ := q_bd hf
    refine q_kV (M2 := m_X15_eat) (As := [.int (25 : Int32)]) (b := 492) (v2 := some (.int (q_bz r1.1))) ok_X15_isBoth ok_X15_eat cv_X15_eat (ct_X15_eat_492 (d := 2) (Nat.le_refl _) hr1) rfl rfl (Or.inl rfl) rfl rfl rfl rfl (by omega) hk hn (Nat.le_of_ble_eq_true rfl) (fun x hx => absurd hx List.not_mem_nil) (q_nmL0 _) (q_nmS0 _) rfl (pos' := 8) (st' := [.int (q_bz r1.1)]) (lI' := [(492, r1.2)]) (lE' := []) rfl rfl rfl rfl ?_
    refine q_blf 0 [] (a := q_kc (t, r, 0, 529, 539, (q_pE ext), (q_pR rx), L) I E 18 [some (.ref 492)] [] [(492, r1.2)] []) (b := q_kc (t, r, 0, 529, 539, (q_pE ext), (q_pR rx), L) I E 9 [some (.ref 492)] [] [(492, r1.2)] []) (P := (q_bz r1.1) = 0) ok_X15_isBoth rfl q_cn (fun h2 => ?_) (fun h2 => ?_)
    · have hf := q_ip h2 hf
      refine q_less (ls' := [none]) (q_sb1 q_sb0) ?_
      cases hf
      exact q_Jpad [492, 497, 529, 537, 538] [] rfl rfl (hK0 rfl)
    · have hf := q_in h2 hf
      refine q_blk 1 [] (c' := q_kc (t, r, 0, 529, 539, (q_pE ext), (q_pR rx), L) I E 10 [some (.ref 492)] [.ref 492] [(492, r1.2)] []) ok_X15_isBoth rfl q_cn ?_
      obtain ⟨r3, hr3, hf⟩ := q_bd hf
      refine q_kV (M2 := m_X15_isSingle) (As := []) (b := 492) (v2 := some (.int (q_bz r3.1))) ok_X15_isBoth ok_X15_isSingle cv_X15_isSingle (ct_X15_isSingle_492 hq_isSingle hq_isTest hq_isValue hq_isSum hr3) rfl rfl (Or.inl rfl) rfl rfl rfl rfl (by omega) hk hn (Nat.le_of_ble_eq_true rfl) (fun x hx => absurd hx List.not_mem_nil) (q_nmL0 _) (q_nmS0 _) rfl (pos' := 11) (st' := [.int (q_bz r3.1)]) (lI' := [(492, r3.2.1), (497, r3.2.2.1), (529, r3.2.2.2.1), (537, r3.2.2.2.2.1), (538, r3.2.2.2.2.2)]) (lE' := []) rfl rfl rfl rfl ?_
      refine q_blf 0 [] (a := q_kc (t, r, 0, 529, 539, (q_pE ext), (q_pR rx), L) I E 14 [some (.ref 492)] [] [(492, r3.2.1), (497, r3.2.2.1), (529, r3.2.2.2.1), (537, r3.2.2.2.2.1), (538, r3.2.2.2.2.2)] []) (b := q_kc (t, r, 0, 529, 539, (q_pE ext), (q_pR rx), L) I E 12 [some (.ref 492)] [] [(492, r3.2.1), (497, r3.2.2.1), (529, r3.2.2.2.1), (537, r3.2.2.2.2.1), (538, r3.2.2.2.2.2)] []) (P := ¬ (q_bz r3.1) = 0) ok_X15_isBoth rfl q_cn (fun h4 => ?_) (fun h4 => ?_)
      · have hf := q_ip h4 hf
        refine q_blk 2 [] (c' := q_kc (t, r, 0, 529, 539, (q_pE ext), (q_pR rx), L) I E 16 [some (.ref 492)] [.int (25 : Int32), .ref 492] [(492, r3.2.1), (497, r3.2.2.1), (529, r3.2.2.2.1), (537, r3.2.2.2.2.1), (538, r3.2.2.2.2.2)] []) ok_X15_isBoth rfl q_cn ?_
        obtain ⟨r5, hr5, hf⟩ := q_bd hf
        refine q_kV (M2 := m_X15_put) (As := [.int (25 : Int32)]) (b := 492) (v2 := none) ok_X15_isBoth ok_X15_put cv_X15_put (ct_X15_put_492 (d := 1) (Nat.le_refl _) hr5) rfl rfl (Or.inl rfl) rfl rfl rfl rfl (by omega) hk hn (Nat.le_of_ble_eq_true rfl) (fun x hx => absurd hx List.not_mem_nil) (q_nmL0 _) (q_nmS0 _) rfl (pos' := 17) (st' := []) (lI' := [(492, r3.2.1), (497, r3.2.2.1), (529, r5.1), (537, r5.2), (538, r3.2.2.2.2.2)]) (lE' := []) rfl rfl rfl rfl ?_
        refine q_blk 1 [] (c' := q_kc (t, r, 0, 529, 539, (q_pE ext), (q_pR rx), L) I E 5 [some (.ref 492)] [] [(492, r3.2.1), (497, r3.2.2.1), (529, r5.1), (537, r5.2), (538, r3.2.2.2.2.2)] []) ok_X15_isBoth rfl q_cn ?_
        exact ih (I := q_ws I [(492, r3.2.1), (497, r3.2.2.1), (529, r5.1), (537, r5.2), (538, r3.2.2.2.2.2)]) (E := q_ws E []) hf (fun hz => q_Jmrg rfl rfl (hK0 hz)) (fun hz => q_Jmrg rfl rfl (hK1 hz))
      · have hf := q_in h4 hf
        refine q_less (ls' := [none]) (q_sb1 q_sb0) ?_
        cases hf
        exact q_Jpad [492, 497, 529, 537, 538] [] rfl rfl (hK1 rfl)
set_option maxHeartbeats 4000000 in
theorem ct_X15_isBoth_492 {g : q_G} {t : Nat} {r : Nat} {ext : Nat → q_Sh} {rx : Nat → Nat → Option Nat} {L : Nat → Nat → Int64} {dR : Nat}  {r_isSingle : (Nat → Int32) → (Nat → Int32) → (Nat → Int32) → (Nat → Int32) → (Nat → Int32) → (Nat → Int32) → (Nat → Int32) → (Nat → Int32) → (Nat → Int32) → Option (Bool × (Nat → Int32) × (Nat → Int32) × (Nat → Int32) × (Nat → Int32) × (Nat → Int32))} (hq_isSingle : ∀ {I : Nat → Nat → Int32} {E : Nat → Nat → Option Nat} {r0 : Bool × (Nat → Int32) × (Nat → Int32) × (Nat → Int32) × (Nat → Int32) × (Nat → Int32)}, r_isSingle ((I 492)) ((I 493)) ((I 494)) ((I 495)) ((I 496)) ((I 497)) ((I 529)) ((I 537)) ((I 538)) = some r0 → q_Ct g m_X15_isSingle dR 0 0 [] [.ref 492] (q_hp (t, r, 0, 529, 539, (q_pE ext), (q_pR rx), L) I E) (fun o h' => o = .inl (some (.int (q_bz r0.1))) ∧ h' = q_hp (t, r, 0, 529, 539, (q_pE ext), (q_pR rx), L) (q_ws I [(492, r0.2.1), (497, r0.2.2.1), (529, r0.2.2.2.1), (537, r0.2.2.2.2.1), (538, r0.2.2.2.2.2)]) (q_ws E []))) {r_isTest : (Nat → Int32) → (Nat → Int32) → (Nat → Int32) → (Nat → Int32) → (Nat → Int32) → (Nat → Int32) → (Nat → Int32) → (Nat → Int32) → (Nat → Int32) → Option (Bool × (Nat → Int32) × (Nat → Int32) × (Nat → Int32) × (Nat → Int32) × (Nat → Int32))} (hq_isTest : ∀ {I : Nat → Nat → Int32} {E : Nat → Nat → Option Nat} {r0 : Bool × (Nat → Int32) × (Nat → Int32) × (Nat → Int32) × (Nat → Int32) × (Nat → Int32)}, r_isTest ((I 492)) ((I 493)) ((I 494)) ((I 495)) ((I 496)) ((I 497)) ((I 529)) ((I 537)) ((I 538)) = some r0 → q_Ct g m_X15_isTest dR 0 0 [] [.ref 492] (q_hp (t, r, 0, 529, 539, (q_pE ext), (q_pR rx), L) I E) (fun o h' => o = .inl (some (.int (q_bz r0.1))) ∧ h' = q_hp (t, r, 0, 529, 539, (q_pE ext), (q_pR rx), L) (q_ws I [(492, r0.2.1), (497, r0.2.2.1), (529, r0.2.2.2.1), (537, r0.2.2.2.2.1), (538, r0.2.2.2.2.2)]) (q_ws E []))) {r_isValue : (Nat → Int32) → (Nat → Int32) → (Nat → Int32) → (Nat → Int32) → (Nat → Int32) → (Nat → Int32) → (Nat → Int32) → (Nat → Int32) → (Nat → Int32) → Option (Bool × (Nat → Int32) × (Nat → Int32) × (Nat → Int32) × (Nat → Int32) × (Nat → Int32))} (hq_isValue : ∀ {I : Nat → Nat → Int32} {E : Nat → Nat → Option Nat} {r0 : Bool × (Nat → Int32) × (Nat → Int32) × (Nat → Int32) × (Nat → Int32) × (Nat → Int32)}, r_isValue ((I 492)) ((I 493)) ((I 494)) ((I 495)) ((I 496)) ((I 497)) ((I 529)) ((I 537)) ((I 538)) = some r0 → q_Ct g m_X15_isValue dR 0 0 [] [.ref 492] (q_hp (t, r, 0, 529, 539, (q_pE ext), (q_pR rx), L) I E) (fun o h' => o = .inl (some (.int (q_bz r0.1))) ∧ h' = q_hp (t, r, 0, 529, 539, (q_pE ext), (q_pR rx), L) (q_ws I [(492, r0.2.1), (497, r0.2.2.1), (529, r0.2.2.2.1), (537, r0.2.2.2.2.1), (538, r0.2.2.2.2.2)]) (q_ws E []))) {r_isSum : (Nat → Int32) → (Nat → Int32) → (Nat → Int32) → (Nat → Int32) → (Nat → Int32) → (Nat → Int32) → (Nat → Int32) → (Nat → Int32) → (Nat → Int32) → Option (Bool × (Nat → Int32) × (Nat → Int32) × (Nat → Int32) × (Nat → Int32) × (Nat → Int32))} (hq_isSum : ∀ {I : Nat → Nat → Int32} {E : Nat → Nat → Option Nat} {r0 : Bool × (Nat → Int32) × (Nat → Int32) × (Nat → Int32) × (Nat → Int32) × (Nat → Int32)}, r_isSum ((I 492)) ((I 493)) ((I 494)) ((I 495)) ((I 496)) ((I 497)) ((I 529)) ((I 537)) ((I 538)) = some r0 → q_Ct g m_X15_isSum dR 0 0 [] [.ref 492] (q_hp (t, r, 0, 529, 539, (q_pE ext), (q_pR rx), L) I E) (fun o h' => o = .inl (some (.int (q_bz r0.1))) ∧ h' = q_hp (t, r, 0, 529, 539, (q_pE ext), (q_pR rx), L) (q_ws I [(492, r0.2.1), (497, r0.2.2.1), (529, r0.2.2.2.1), (537, r0.2.2.2.2.1), (538, r0.2.2.2.2.2)]) (q_ws E []))){I : Nat → Nat → Int32} {E : Nat → Nat → Option Nat} {r0 : Bool × (Nat → Int32) × (Nat → Int32) × (Nat → Int32) × (Nat → Int32) × (Nat → Int32)} (hf : f_X15_isBoth r_isSingle r_isTest r_isValue r_isSum (I 492) (I 493) (I 494) (I 495) (I 496) (I 497) (I 529) (I 537) (I 538) = some r0) : q_Ct g m_X15_isBoth (dR + 9) 0 0 [] [.ref 492] (q_hp (t, r, 0, 529, 539, (q_pE ext), (q_pR rx), L) I E) (fun o h' => o = .inl (some (.int (q_bz r0.1))) ∧ h' = q_hp (t, r, 0, 529, 539, (q_pE ext), (q_pR rx), L) (q_ws I [(492, r0.2.1), (497, r0.2.2.1), (529, r0.2.2.2.1), (537, r0.2.2.2.2.1), (538, r0.2.2.2.2.2)]) (q_ws E [])) := by
  rw [f_X15_isBoth] at hf
  refine q_Ct_of ok_X15_isBoth (Nat.le_of_ble_eq_true rfl) ?_ _ rfl rfl
  change q_J g m_X15_isBoth (dR + 9) 0 0 _ [] _ 0 0 (q_kc (t, r, 0, 529, 539, (q_pE ext), (q_pR rx), L) I E 0 [some (.ref 492)] [] [] [])
  refine q_blk 1 [] (c' := q_kc (t, r, 0, 529, 539, (q_pE ext), (q_pR rx), L) I E 1 [some (.ref 492)] [.ref 492] [] []) ok_X15_isBoth rfl q_cn ?_
  obtain ⟨r6, hr6, hf⟩ := q_bd hf
  refine q_kV (M2 := m_X15_isSingle) (As := []) (b := 492) (v2 := some (.int (q_bz r6.1))) ok_X15_isBoth ok_X15_isSingle cv_X15_isSingle (ct_X15_isSingle_492 hq_isSingle hq_isTest hq_isValue hq_isSum hr6) rfl rfl (Or.inl rfl) rfl rfl rfl rfl (by omega) (Nat.le_of_ble_eq_true rfl) (Nat.le_of_ble_eq_true rfl) (Nat.le_of_ble_eq_true rfl) (fun x hx => absurd hx List.not_mem_nil) (q_nmL0 _) (q_nmS0 _) rfl (pos' := 2) (st' := [.int (q_bz r6.1)]) (lI' := [(492, r6.2.1), (497, r6.2.2.1), (529, r6.2.2.2.1), (537, r6.2.2.2.2.1), (538, r6.2.2.2.2.2)]) (lE' := []) rfl rfl rfl rfl ?_
  refine q_blf 0 [] (a := q_kc (t, r, 0, 529, 539, (q_pE ext), (q_pR rx), L) I E 5 [some (.ref 492)] [] [(492, r6.2.1), (497, r6.2.2.1), (529, r6.2.2.2.1), (537, r6.2.2.2.2.1), (538, r6.2.2.2.2.2)] []) (b := q_kc (t, r, 0, 529, 539, (q_pE ext), (q_pR rx), L) I E 3 [some (.ref 492)] [] [(492, r6.2.1), (497, r6.2.2.1), (529, r6.2.2.2.1), (537, r6.2.2.2.2.1), (538, r6.2.2.2.2.2)] []) (P := ¬ (q_bz r6.1) = 0) ok_X15_isBoth rfl q_cn (fun h7 => ?_) (fun h7 => ?_)
  · have hf := q_ip h7 hf
    obtain ⟨r8, hr8, hf⟩ := q_bd hf
    refine lp_X15_isBoth_L5_492 (I := q_ws I [(492, r6.2.1), (497, r6.2.2.1), (529, r6.2.2.2.1), (537, r6.2.2.2.2.1), (538, r6.2.2.2.2.2)]) (E := q_ws E []) (Nat.le_of_ble_eq_true rfl) (Nat.le_of_ble_eq_true rfl) hq_isSingle hq_isTest hq_isValue hq_isSum 4096 hr8 ?_ ?_
    · intro hz0
      have hf := q_ip hz0 hf
      refine q_Jmrg (lI' := [(492, r8.2.1), (497, r8.2.2.1), (529, r8.2.2.2.1), (537, r8.2.2.2.2.1), (538, r8.2.2.2.2.2)]) (lE' := []) rfl rfl ?_
      refine q_blk 1 [] (c' := q_kc (t, r, 0, 529, 539, (q_pE ext), (q_pR rx), L) I E 19 [none] [.int (1 : Int32)] [(492, r8.2.1), (497, r8.2.2.1), (529, r8.2.2.2.1), (537, r8.2.2.2.2.1), (538, r8.2.2.2.2.2)] []) ok_X15_isBoth rfl q_cn ?_
      cases hf
      exact q_kri ok_X15_isBoth rfl rfl rfl (Nat.le_of_ble_eq_true rfl) (Nat.le_of_ble_eq_true rfl) ⟨rfl, q_hpe (q_fin [492, 497, 529, 537, 538] rfl) (q_fin [] rfl)⟩
    · intro hz1
      have hf := q_in (fun h9 => absurd (hz1.symm.trans h9) (by decide)) hf
      refine q_Jmrg (lI' := [(492, r8.2.1), (497, r8.2.2.1), (529, r8.2.2.2.1), (537, r8.2.2.2.2.1), (538, r8.2.2.2.2.2)]) (lE' := []) rfl rfl ?_
      refine q_blk 1 [] (c' := q_kc (t, r, 0, 529, 539, (q_pE ext), (q_pR rx), L) I E 13 [none] [.int (0 : Int32)] [(492, r8.2.1), (497, r8.2.2.1), (529, r8.2.2.2.1), (537, r8.2.2.2.2.1), (538, r8.2.2.2.2.2)] []) ok_X15_isBoth rfl q_cn ?_
      cases hf
      exact q_kri ok_X15_isBoth rfl rfl rfl (Nat.le_of_ble_eq_true rfl) (Nat.le_of_ble_eq_true rfl) ⟨rfl, q_hpe (q_fin [492, 497, 529, 537, 538] rfl) (q_fin [] rfl)⟩
  · have hf := q_in h7 hf
    refine q_blk 1 [] (c' := q_kc (t, r, 0, 529, 539, (q_pE ext), (q_pR rx), L) I E 4 [some (.ref 492)] [.int (0 : Int32)] [(492, r6.2.1), (497, r6.2.2.1), (529, r6.2.2.2.1), (537, r6.2.2.2.2.1), (538, r6.2.2.2.2.2)] []) ok_X15_isBoth rfl q_cn ?_
    cases hf
    exact q_kri ok_X15_isBoth rfl rfl rfl (Nat.le_of_ble_eq_true rfl) (Nat.le_of_ble_eq_true rfl) ⟨rfl, q_hpe (q_fin [492, 497, 529, 537, 538] rfl) (q_fin [] rfl)⟩
set_option maxHeartbeats 4000000 in
theorem lp_X15_isTest_L5_492 {g : q_G} {dR mc ms : Nat} {h0 : q_H} {Q : (Option Value ⊕ String) → q_H → Prop} {k n : Nat} {t : Nat} {r : Nat} {ext : Nat → q_Sh} {rx : Nat → Nat → Option Nat} {L : Nat → Nat → Int64} (hk : k ≤ mc) (hn : n ≤ ms)  {r_isSingle : (Nat → Int32) → (Nat → Int32) → (Nat → Int32) → (Nat → Int32) → (Nat → Int32) → (Nat → Int32) → (Nat → Int32) → (Nat → Int32) → (Nat → Int32) → Option (Bool × (Nat → Int32) × (Nat → Int32) × (Nat → Int32) × (Nat → Int32) × (Nat → Int32))} (hq_isSingle : ∀ {I : Nat → Nat → Int32} {E : Nat → Nat → Option Nat} {r0 : Bool × (Nat → Int32) × (Nat → Int32) × (Nat → Int32) × (Nat → Int32) × (Nat → Int32)}, r_isSingle ((I 492)) ((I 493)) ((I 494)) ((I 495)) ((I 496)) ((I 497)) ((I 529)) ((I 537)) ((I 538)) = some r0 → q_Ct g m_X15_isSingle dR 0 0 [] [.ref 492] (q_hp (t, r, 0, 529, 539, (q_pE ext), (q_pR rx), L) I E) (fun o h' => o = .inl (some (.int (q_bz r0.1))) ∧ h' = q_hp (t, r, 0, 529, 539, (q_pE ext), (q_pR rx), L) (q_ws I [(492, r0.2.1), (497, r0.2.2.1), (529, r0.2.2.2.1), (537, r0.2.2.2.2.1), (538, r0.2.2.2.2.2)]) (q_ws E []))) {r_isTest : (Nat → Int32) → (Nat → Int32) → (Nat → Int32) → (Nat → Int32) → (Nat → Int32) → (Nat → Int32) → (Nat → Int32) → (Nat → Int32) → (Nat → Int32) → Option (Bool × (Nat → Int32) × (Nat → Int32) × (Nat → Int32) × (Nat → Int32) × (Nat → Int32))} (hq_isTest : ∀ {I : Nat → Nat → Int32} {E : Nat → Nat → Option Nat} {r0 : Bool × (Nat → Int32) × (Nat → Int32) × (Nat → Int32) × (Nat → Int32) × (Nat → Int32)}, r_isTest ((I 492)) ((I 493)) ((I 494)) ((I 495)) ((I 496)) ((I 497)) ((I 529)) ((I 537)) ((I 538)) = some r0 → q_Ct g m_X15_isTest dR 0 0 [] [.ref 492] (q_hp (t, r, 0, 529, 539, (q_pE ext), (q_pR rx), L) I E) (fun o h' => o = .inl (some (.int (q_bz r0.1))) ∧ h' = q_hp (t, r, 0, 529, 539, (q_pE ext), (q_pR rx), L) (q_ws I [(492, r0.2.1), (497, r0.2.2.1), (529, r0.2.2.2.1), (537, r0.2.2.2.2.1), (538, r0.2.2.2.2.2)]) (q_ws E []))) {r_isValue : (Nat → Int32) → (Nat → Int32) → (Nat → Int32) → (Nat → Int32) → (Nat → Int32) → (Nat → Int32) → (Nat → Int32) → (Nat → Int32) → (Nat → Int32) → Option (Bool × (Nat → Int32) × (Nat → Int32) × (Nat → Int32) × (Nat → Int32) × (Nat → Int32))} (hq_isValue : ∀ {I : Nat → Nat → Int32} {E : Nat → Nat → Option Nat} {r0 : Bool × (Nat → Int32) × (Nat → Int32) × (Nat → Int32) × (Nat → Int32) × (Nat → Int32)}, r_isValue ((I 492)) ((I 493)) ((I 494)) ((I 495)) ((I 496)) ((I 497)) ((I 529)) ((I 537)) ((I 538)) = some r0 → q_Ct g m_X15_isValue dR 0 0 [] [.ref 492] (q_hp (t, r, 0, 529, 539, (q_pE ext), (q_pR rx), L) I E) (fun o h' => o = .inl (some (.int (q_bz r0.1))) ∧ h' = q_hp (t, r, 0, 529, 539, (q_pE ext), (q_pR rx), L) (q_ws I [(492, r0.2.1), (497, r0.2.2.1), (529, r0.2.2.2.1), (537, r0.2.2.2.2.1), (538, r0.2.2.2.2.2)]) (q_ws E []))) {r_isSum : (Nat → Int32) → (Nat → Int32) → (Nat → Int32) → (Nat → Int32) → (Nat → Int32) → (Nat → Int32) → (Nat → Int32) → (Nat → Int32) → (Nat → Int32) → Option (Bool × (Nat → Int32) × (Nat → Int32) × (Nat → Int32) × (Nat → Int32) × (Nat → Int32))} (hq_isSum : ∀ {I : Nat → Nat → Int32} {E : Nat → Nat → Option Nat} {r0 : Bool × (Nat → Int32) × (Nat → Int32) × (Nat → Int32) × (Nat → Int32) × (Nat → Int32)}, r_isSum ((I 492)) ((I 493)) ((I 494)) ((I 495)) ((I 496)) ((I 497)) ((I 529)) ((I 537)) ((I 538)) = some r0 → q_Ct g m_X15_isSum dR 0 0 [] [.ref 492] (q_hp (t, r, 0, 529, 539, (q_pE ext), (q_pR rx), L) I E) (fun o h' => o = .inl (some (.int (q_bz r0.1))) ∧ h' = q_hp (t, r, 0, 529, 539, (q_pE ext), (q_pR rx), L) (q_ws I [(492, r0.2.1), (497, r0.2.2.1), (529, r0.2.2.2.1), (537, r0.2.2.2.2.1), (538, r0.2.2.2.2.2)]) (q_ws E []))) : ∀ (fu : Nat) {I : Nat → Nat → Int32} {E : Nat → Nat → Option Nat} {r0 : Nat × (Nat → Int32) × (Nat → Int32) × (Nat → Int32) × (Nat → Int32) × (Nat → Int32)} (hf : f_X15_isTest_L5 r_isSingle r_isTest r_isValue r_isSum (I 493) (I 494) (I 495) (I 496) fu (I 492) (I 497) (I 529) (I 537) (I 538) = some r0) (hK0 : r0.1 = 0 → q_J g m_X15_isTest (dR + 10) mc ms h0 [] Q k n (q_kc (t, r, 0, 529, 539, (q_pE ext), (q_pR rx), L) I E 18 [none] [] [(492, r0.2.1), (497, r0.2.2.1), (529, r0.2.2.2.1), (537, r0.2.2.2.2.1), (538, r0.2.2.2.2.2)] [])) (hK1 : r0.1 = 1 → q_J g m_X15_isTest (dR + 10) mc ms h0 [] Q k n (q_kc (t, r, 0, 529, 539, (q_pE ext), (q_pR rx), L) I E 12 [none] [] [(492, r0.2.1), (497, r0.2.2.1), (529, r0.2.2.2.1), (537, r0.2.2.2.2.1), (538, r0.2.2.2.2.2)] [])), q_J g m_X15_isTest (dR + 10) mc ms h0 [] Q k n (5, [some (.ref 492)], [], q_hp (t, r, 0, 529, 539, (q_pE ext), (q_pR rx), L) I E) := by
  intro fu
  induction fu with
  | zero =>
    intro I E r0 hf hK0 hK1
    rw [f_X15_isTest_L5] at hf
    cases hf
  | succ fu ih =>
    intro I E r0 hf hK0 hK1
    rw [f_X15_isTest_L5] at hf
    change q_J g m_X15_isTest (dR + 10) mc ms h0 [] Q k n (q_kc (t, r, 0, 529, 539, (q_pE ext), (q_pR rx), L) I E 5 [some (.ref 492)] [] [] [])
    refine q_blk 2 [] (c' := q_kc (t, r, 0, 529, 539, (q_pE ext), (q_pR rx), L) I E 7 [some (.ref 492)] [.int (26 : Int32), .ref 492] [] []) ok_X15_isTest rfl q_cn ?_
    obtain ⟨r1, hr1, hf⟩ := q_bd hf
    refine q_kV (M2 := m_X15_eat) (As := [.int (26 : Int32)]) (b := 492) (v2 := some (.int (q_bz r1.1))) ok_X15_isTest ok_X15_eat cv_X15_eat (ct_X15_eat_492 (d := 2) (Nat.le_refl _) hr1) rfl rfl (Or.inl rfl) rfl rfl rfl rfl (by omega) hk hn (Nat.le_of_ble_eq_true rfl) (fun x hx => absurd hx List.not_mem_nil) (q_nmL0 _) (q_nmS0 _) rfl (pos' := 8) (st' := [.int (q_bz r1.1)]) (lI' := [(492, r1.2)]) (lE' := []) rfl rfl rfl rfl ?_
    refine q_blf 0 [] (a := q_kc (t, r, 0, 529, 539, (q_pE ext), (q_pR rx), L) I E 18 [some (.ref 492)] [] [(492, r1.2)] []) (b := q_kc (t, r, 0, 529, 539, (q_pE ext), (q_pR rx), L) I E 9 [some (.ref 492)] [] [(492, r1.2)] []) (P := (q_bz r1.1) = 0) ok_X15_isTest rfl q_cn (fun h2 => ?_) (fun h2 => ?_)
    · have hf := q_ip h2 hf
      refine q_less (ls' := [none]) (q_sb1 q_sb0) ?_
      cases hf
      exact q_Jpad [492, 497, 529, 537, 538] [] rfl rfl (hK0 rfl)
    · have hf := q_in h2 hf
      refine q_blk 1 [] (c' := q_kc (t, r, 0, 529, 539, (q_pE ext), (q_pR rx), L) I E 10 [some (.ref 492)] [.ref 492] [(492, r1.2)] []) ok_X15_isTest rfl q_cn ?_
      obtain ⟨r3, hr3, hf⟩ := q_bd hf
      refine q_kV (M2 := m_X15_isBoth) (As := []) (b := 492) (v2 := some (.int (q_bz r3.1))) ok_X15_isTest ok_X15_isBoth cv_X15_isBoth (ct_X15_isBoth_492 hq_isSingle hq_isTest hq_isValue hq_isSum hr3) rfl rfl (Or.inl rfl) rfl rfl rfl rfl (by omega) hk hn (Nat.le_of_ble_eq_true rfl) (fun x hx => absurd hx List.not_mem_nil) (q_nmL0 _) (q_nmS0 _) rfl (pos' := 11) (st' := [.int (q_bz r3.1)]) (lI' := [(492, r3.2.1), (497, r3.2.2.1), (529, r3.2.2.2.1), (537, r3.2.2.2.2.1), (538, r3.2.2.2.2.2)]) (lE' := []) rfl rfl rfl rfl ?_
      refine q_blf 0 [] (a := q_kc (t, r, 0, 529, 539, (q_pE ext), (q_pR rx), L) I E 14 [some (.ref 492)] [] [(492, r3.2.1), (497, r3.2.2.1), (529, r3.2.2.2.1), (537, r3.2.2.2.2.1), (538, r3.2.2.2.2.2)] []) (b := q_kc (t, r, 0, 529, 539, (q_pE ext), (q_pR rx), L) I E 12 [some (.ref 492)] [] [(492, r3.2.1), (497, r3.2.2.1), (529, r3.2.2.2.1), (537, r3.2.2.2.2.1), (538, r3.2.2.2.2.2)] []) (P := ¬ (q_bz r3.1) = 0) ok_X15_isTest rfl q_cn (fun h4 => ?_) (fun h4 => ?_)
      · have hf := q_ip h4 hf
        refine q_blk 2 [] (c' := q_kc (t, r, 0, 529, 539, (q_pE ext), (q_pR rx), L) I E 16 [some (.ref 492)] [.int (26 : Int32), .ref 492] [(492, r3.2.1), (497, r3.2.2.1), (529, r3.2.2.2.1), (537, r3.2.2.2.2.1), (538, r3.2.2.2.2.2)] []) ok_X15_isTest rfl q_cn ?_
        obtain ⟨r5, hr5, hf⟩ := q_bd hf
        refine q_kV (M2 := m_X15_put) (As := [.int (26 : Int32)]) (b := 492) (v2 := none) ok_X15_isTest ok_X15_put cv_X15_put (ct_X15_put_492 (d := 1) (Nat.le_refl _) hr5) rfl rfl (Or.inl rfl) rfl rfl rfl rfl (by omega) hk hn (Nat.le_of_ble_eq_true rfl) (fun x hx => absurd hx List.not_mem_nil) (q_nmL0 _) (q_nmS0 _) rfl (pos' := 17) (st' := []) (lI' := [(492, r3.2.1), (497, r3.2.2.1), (529, r5.1), (537, r5.2), (538, r3.2.2.2.2.2)]) (lE' := []) rfl rfl rfl rfl ?_
        refine q_blk 1 [] (c' := q_kc (t, r, 0, 529, 539, (q_pE ext), (q_pR rx), L) I E 5 [some (.ref 492)] [] [(492, r3.2.1), (497, r3.2.2.1), (529, r5.1), (537, r5.2), (538, r3.2.2.2.2.2)] []) ok_X15_isTest rfl q_cn ?_
        exact ih (I := q_ws I [(492, r3.2.1), (497, r3.2.2.1), (529, r5.1), (537, r5.2), (538, r3.2.2.2.2.2)]) (E := q_ws E []) hf (fun hz => q_Jmrg rfl rfl (hK0 hz)) (fun hz => q_Jmrg rfl rfl (hK1 hz))
      · have hf := q_in h4 hf
        refine q_less (ls' := [none]) (q_sb1 q_sb0) ?_
        cases hf
        exact q_Jpad [492, 497, 529, 537, 538] [] rfl rfl (hK1 rfl)
set_option maxHeartbeats 4000000 in
theorem ct_X15_isTest_492 {g : q_G} {t : Nat} {r : Nat} {ext : Nat → q_Sh} {rx : Nat → Nat → Option Nat} {L : Nat → Nat → Int64} {dR : Nat}  {r_isSingle : (Nat → Int32) → (Nat → Int32) → (Nat → Int32) → (Nat → Int32) → (Nat → Int32) → (Nat → Int32) → (Nat → Int32) → (Nat → Int32) → (Nat → Int32) → Option (Bool × (Nat → Int32) × (Nat → Int32) × (Nat → Int32) × (Nat → Int32) × (Nat → Int32))} (hq_isSingle : ∀ {I : Nat → Nat → Int32} {E : Nat → Nat → Option Nat} {r0 : Bool × (Nat → Int32) × (Nat → Int32) × (Nat → Int32) × (Nat → Int32) × (Nat → Int32)}, r_isSingle ((I 492)) ((I 493)) ((I 494)) ((I 495)) ((I 496)) ((I 497)) ((I 529)) ((I 537)) ((I 538)) = some r0 → q_Ct g m_X15_isSingle dR 0 0 [] [.ref 492] (q_hp (t, r, 0, 529, 539, (q_pE ext), (q_pR rx), L) I E) (fun o h' => o = .inl (some (.int (q_bz r0.1))) ∧ h' = q_hp (t, r, 0, 529, 539, (q_pE ext), (q_pR rx), L) (q_ws I [(492, r0.2.1), (497, r0.2.2.1), (529, r0.2.2.2.1), (537, r0.2.2.2.2.1), (538, r0.2.2.2.2.2)]) (q_ws E []))) {r_isTest : (Nat → Int32) → (Nat → Int32) → (Nat → Int32) → (Nat → Int32) → (Nat → Int32) → (Nat → Int32) → (Nat → Int32) → (Nat → Int32) → (Nat → Int32) → Option (Bool × (Nat → Int32) × (Nat → Int32) × (Nat → Int32) × (Nat → Int32) × (Nat → Int32))} (hq_isTest : ∀ {I : Nat → Nat → Int32} {E : Nat → Nat → Option Nat} {r0 : Bool × (Nat → Int32) × (Nat → Int32) × (Nat → Int32) × (Nat → Int32) × (Nat → Int32)}, r_isTest ((I 492)) ((I 493)) ((I 494)) ((I 495)) ((I 496)) ((I 497)) ((I 529)) ((I 537)) ((I 538)) = some r0 → q_Ct g m_X15_isTest dR 0 0 [] [.ref 492] (q_hp (t, r, 0, 529, 539, (q_pE ext), (q_pR rx), L) I E) (fun o h' => o = .inl (some (.int (q_bz r0.1))) ∧ h' = q_hp (t, r, 0, 529, 539, (q_pE ext), (q_pR rx), L) (q_ws I [(492, r0.2.1), (497, r0.2.2.1), (529, r0.2.2.2.1), (537, r0.2.2.2.2.1), (538, r0.2.2.2.2.2)]) (q_ws E []))) {r_isValue : (Nat → Int32) → (Nat → Int32) → (Nat → Int32) → (Nat → Int32) → (Nat → Int32) → (Nat → Int32) → (Nat → Int32) → (Nat → Int32) → (Nat → Int32) → Option (Bool × (Nat → Int32) × (Nat → Int32) × (Nat → Int32) × (Nat → Int32) × (Nat → Int32))} (hq_isValue : ∀ {I : Nat → Nat → Int32} {E : Nat → Nat → Option Nat} {r0 : Bool × (Nat → Int32) × (Nat → Int32) × (Nat → Int32) × (Nat → Int32) × (Nat → Int32)}, r_isValue ((I 492)) ((I 493)) ((I 494)) ((I 495)) ((I 496)) ((I 497)) ((I 529)) ((I 537)) ((I 538)) = some r0 → q_Ct g m_X15_isValue dR 0 0 [] [.ref 492] (q_hp (t, r, 0, 529, 539, (q_pE ext), (q_pR rx), L) I E) (fun o h' => o = .inl (some (.int (q_bz r0.1))) ∧ h' = q_hp (t, r, 0, 529, 539, (q_pE ext), (q_pR rx), L) (q_ws I [(492, r0.2.1), (497, r0.2.2.1), (529, r0.2.2.2.1), (537, r0.2.2.2.2.1), (538, r0.2.2.2.2.2)]) (q_ws E []))) {r_isSum : (Nat → Int32) → (Nat → Int32) → (Nat → Int32) → (Nat → Int32) → (Nat → Int32) → (Nat → Int32) → (Nat → Int32) → (Nat → Int32) → (Nat → Int32) → Option (Bool × (Nat → Int32) × (Nat → Int32) × (Nat → Int32) × (Nat → Int32) × (Nat → Int32))} (hq_isSum : ∀ {I : Nat → Nat → Int32} {E : Nat → Nat → Option Nat} {r0 : Bool × (Nat → Int32) × (Nat → Int32) × (Nat → Int32) × (Nat → Int32) × (Nat → Int32)}, r_isSum ((I 492)) ((I 493)) ((I 494)) ((I 495)) ((I 496)) ((I 497)) ((I 529)) ((I 537)) ((I 538)) = some r0 → q_Ct g m_X15_isSum dR 0 0 [] [.ref 492] (q_hp (t, r, 0, 529, 539, (q_pE ext), (q_pR rx), L) I E) (fun o h' => o = .inl (some (.int (q_bz r0.1))) ∧ h' = q_hp (t, r, 0, 529, 539, (q_pE ext), (q_pR rx), L) (q_ws I [(492, r0.2.1), (497, r0.2.2.1), (529, r0.2.2.2.1), (537, r0.2.2.2.2.1), (538, r0.2.2.2.2.2)]) (q_ws E []))){I : Nat → Nat → Int32} {E : Nat → Nat → Option Nat} {r0 : Bool × (Nat → Int32) × (Nat → Int32) × (Nat → Int32) × (Nat → Int32) × (Nat → Int32)} (hf : f_X15_isTest r_isSingle r_isTest r_isValue r_isSum (I 492) (I 493) (I 494) (I 495) (I 496) (I 497) (I 529) (I 537) (I 538) = some r0) : q_Ct g m_X15_isTest (dR + 10) 0 0 [] [.ref 492] (q_hp (t, r, 0, 529, 539, (q_pE ext), (q_pR rx), L) I E) (fun o h' => o = .inl (some (.int (q_bz r0.1))) ∧ h' = q_hp (t, r, 0, 529, 539, (q_pE ext), (q_pR rx), L) (q_ws I [(492, r0.2.1), (497, r0.2.2.1), (529, r0.2.2.2.1), (537, r0.2.2.2.2.1), (538, r0.2.2.2.2.2)]) (q_ws E [])) := by
  rw [f_X15_isTest] at hf
  refine q_Ct_of ok_X15_isTest (Nat.le_of_ble_eq_true rfl) ?_ _ rfl rfl
  change q_J g m_X15_isTest (dR + 10) 0 0 _ [] _ 0 0 (q_kc (t, r, 0, 529, 539, (q_pE ext), (q_pR rx), L) I E 0 [some (.ref 492)] [] [] [])
  refine q_blk 1 [] (c' := q_kc (t, r, 0, 529, 539, (q_pE ext), (q_pR rx), L) I E 1 [some (.ref 492)] [.ref 492] [] []) ok_X15_isTest rfl q_cn ?_
  obtain ⟨r6, hr6, hf⟩ := q_bd hf
  refine q_kV (M2 := m_X15_isBoth) (As := []) (b := 492) (v2 := some (.int (q_bz r6.1))) ok_X15_isTest ok_X15_isBoth cv_X15_isBoth (ct_X15_isBoth_492 hq_isSingle hq_isTest hq_isValue hq_isSum hr6) rfl rfl (Or.inl rfl) rfl rfl rfl rfl (by omega) (Nat.le_of_ble_eq_true rfl) (Nat.le_of_ble_eq_true rfl) (Nat.le_of_ble_eq_true rfl) (fun x hx => absurd hx List.not_mem_nil) (q_nmL0 _) (q_nmS0 _) rfl (pos' := 2) (st' := [.int (q_bz r6.1)]) (lI' := [(492, r6.2.1), (497, r6.2.2.1), (529, r6.2.2.2.1), (537, r6.2.2.2.2.1), (538, r6.2.2.2.2.2)]) (lE' := []) rfl rfl rfl rfl ?_
  refine q_blf 0 [] (a := q_kc (t, r, 0, 529, 539, (q_pE ext), (q_pR rx), L) I E 5 [some (.ref 492)] [] [(492, r6.2.1), (497, r6.2.2.1), (529, r6.2.2.2.1), (537, r6.2.2.2.2.1), (538, r6.2.2.2.2.2)] []) (b := q_kc (t, r, 0, 529, 539, (q_pE ext), (q_pR rx), L) I E 3 [some (.ref 492)] [] [(492, r6.2.1), (497, r6.2.2.1), (529, r6.2.2.2.1), (537, r6.2.2.2.2.1), (538, r6.2.2.2.2.2)] []) (P := ¬ (q_bz r6.1) = 0) ok_X15_isTest rfl q_cn (fun h7 => ?_) (fun h7 => ?_)
  · have hf := q_ip h7 hf
    obtain ⟨r8, hr8, hf⟩ := q_bd hf
    refine lp_X15_isTest_L5_492 (I := q_ws I [(492, r6.2.1), (497, r6.2.2.1), (529, r6.2.2.2.1), (537, r6.2.2.2.2.1), (538, r6.2.2.2.2.2)]) (E := q_ws E []) (Nat.le_of_ble_eq_true rfl) (Nat.le_of_ble_eq_true rfl) hq_isSingle hq_isTest hq_isValue hq_isSum 4096 hr8 ?_ ?_
    · intro hz0
      have hf := q_ip hz0 hf
      refine q_Jmrg (lI' := [(492, r8.2.1), (497, r8.2.2.1), (529, r8.2.2.2.1), (537, r8.2.2.2.2.1), (538, r8.2.2.2.2.2)]) (lE' := []) rfl rfl ?_
      refine q_blk 1 [] (c' := q_kc (t, r, 0, 529, 539, (q_pE ext), (q_pR rx), L) I E 19 [none] [.int (1 : Int32)] [(492, r8.2.1), (497, r8.2.2.1), (529, r8.2.2.2.1), (537, r8.2.2.2.2.1), (538, r8.2.2.2.2.2)] []) ok_X15_isTest rfl q_cn ?_
      cases hf
      exact q_kri ok_X15_isTest rfl rfl rfl (Nat.le_of_ble_eq_true rfl) (Nat.le_of_ble_eq_true rfl) ⟨rfl, q_hpe (q_fin [492, 497, 529, 537, 538] rfl) (q_fin [] rfl)⟩
    · intro hz1
      have hf := q_in (fun h9 => absurd (hz1.symm.trans h9) (by decide)) hf
      refine q_Jmrg (lI' := [(492, r8.2.1), (497, r8.2.2.1), (529, r8.2.2.2.1), (537, r8.2.2.2.2.1), (538, r8.2.2.2.2.2)]) (lE' := []) rfl rfl ?_
      refine q_blk 1 [] (c' := q_kc (t, r, 0, 529, 539, (q_pE ext), (q_pR rx), L) I E 13 [none] [.int (0 : Int32)] [(492, r8.2.1), (497, r8.2.2.1), (529, r8.2.2.2.1), (537, r8.2.2.2.2.1), (538, r8.2.2.2.2.2)] []) ok_X15_isTest rfl q_cn ?_
      cases hf
      exact q_kri ok_X15_isTest rfl rfl rfl (Nat.le_of_ble_eq_true rfl) (Nat.le_of_ble_eq_true rfl) ⟨rfl, q_hpe (q_fin [492, 497, 529, 537, 538] rfl) (q_fin [] rfl)⟩
  · have hf := q_in h7 hf
    refine q_blk 1 [] (c' := q_kc (t, r, 0, 529, 539, (q_pE ext), (q_pR rx), L) I E 4 [some (.ref 492)] [.int (0 : Int32)] [(492, r6.2.1), (497, r6.2.2.1), (529, r6.2.2.2.1), (537, r6.2.2.2.2.1), (538, r6.2.2.2.2.2)] []) ok_X15_isTest rfl q_cn ?_
    cases hf
    exact q_kri ok_X15_isTest rfl rfl rfl (Nat.le_of_ble_eq_true rfl) (Nat.le_of_ble_eq_true rfl) ⟨rfl, q_hpe (q_fin [492, 497, 529, 537, 538] rfl) (q_fin [] rfl)⟩
set_option maxHeartbeats 4000000 in
theorem ct_X15_isStep_492 {g : q_G} {t : Nat} {r : Nat} {ext : Nat → q_Sh} {rx : Nat → Nat → Option Nat} {L : Nat → Nat → Int64} {d : Nat} (hd : 11 ≤ d)  {I : Nat → Nat → Int32} {E : Nat → Nat → Option Nat} {x1 : Int32} {r0 : Bool × (Nat → Int32) × (Nat → Int32) × (Nat → Int32) × (Nat → Int32) × (Nat → Int32) × (Nat → Int32) × (Nat → Int32) × (Nat → Int32)} (hf : f_X15_isStep (I 492) (I 493) (I 494) (I 495) (I 496) (I 497) (I 529) (I 534) (I 535) (I 536) (I 537) (I 538) x1 = some r0) : q_Ct g m_X15_isStep d 0 0 [] [.ref 492, .int x1] (q_hp (t, r, 0, 529, 539, (q_pE ext), (q_pR rx), L) I E) (fun o h' => o = .inl (some (.int (q_bz r0.1))) ∧ h' = q_hp (t, r, 0, 529, 539, (q_pE ext), (q_pR rx), L) (q_ws I [(492, r0.2.1), (497, r0.2.2.1), (529, r0.2.2.2.1), (534, r0.2.2.2.2.1), (535, r0.2.2.2.2.2.1), (536, r0.2.2.2.2.2.2.1), (537, r0.2.2.2.2.2.2.2.1), (538, r0.2.2.2.2.2.2.2.2)]) (q_ws E [])) := by
  rw [f_X15_isStep] at hf
  refine q_Ct_of ok_X15_isStep (Nat.le_of_ble_eq_true rfl) ?_ _ rfl rfl
  change q_J g m_X15_isStep d 0 0 _ [] _ 0 0 (q_kc (t, r, 0, 529, 539, (q_pE ext), (q_pR rx), L) I E 0 [some (.ref 492), some (.int x1), none] [] [] [])
  obtain ⟨j1, hj1, hf⟩ := q_bd hf
  refine q_blk 16 [j1] (c' := q_kc (t, r, 0, 529, 539, (q_pE ext), (q_pR rx), L) I E 16 [some (.ref 492), some (.int x1), none] [.int (20 : Int32), .int ((I 529) 5)] [(492, (q_up (I 492) 9 (((I 492) 9) + (1 : Int32)))), (497, (q_up (I 497) j1 (2 : Int32)))] []) ok_X15_isStep rfl (q_cc hj1 q_cn) ?_
  refine q_kmn (pos' := 17) ok_X15_isStep rfl rfl (Nat.le_trans (Nat.le_of_ble_eq_true rfl) hd) (Nat.le_of_ble_eq_true rfl) (Nat.le_of_ble_eq_true rfl) (Nat.le_of_ble_eq_true rfl) rfl ?_
  refine q_blk 11 [] (c' := q_kc (t, r, 0, 529, 539, (q_pE ext), (q_pR rx), L) I E 28 [some (.ref 492), some (.int x1), some (.int (q_min ((I 529) 5) (20 : Int32)))] [.int (3 : Int32), .int (40 : Int32), .ref 492] [(492, (q_up (I 492) 9 (((I 492) 9) + (1 : Int32)))), (497, (q_up (I 497) j1 (2 : Int32))), (529, (q_up (I 529) 5 (((I 529) 5) + (1 : Int32))))] []) ok_X15_isStep rfl q_cn ?_
  obtain ⟨r2, hr2, hf⟩ := q_bd hf
  refine q_kV (M2 := m_X15_eatAs) (As := [.int (40 : Int32), .int (3 : Int32)]) (b := 492) (v2 := some (.int (q_bz r2.1))) ok_X15_isStep ok_X15_eatAs cv_X15_eatAs (ct_X15_eatAs_492 (d := 3) (Nat.le_refl _) hr2) rfl rfl (Or.inl rfl) rfl rfl rfl rfl (Nat.le_trans (Nat.le_of_ble_eq_true rfl) hd) (Nat.le_of_ble_eq_true rfl) (Nat.le_of_ble_eq_true rfl) (Nat.le_of_ble_eq_true rfl) (fun x hx => absurd hx List.not_mem_nil) (q_nmL0 _) (q_nmS0 _) rfl (pos' := 29) (st' := [.int (q_bz r2.1)]) (lI' := [(492, r2.2.1), (497, r2.2.2), (529, (q_up (I 529) 5 (((I 529) 5) + (1 : Int32))))]) (lE' := []) rfl rfl rfl rfl ?_
  refine q_blf 0 [] (a := q_kc (t, r, 0, 529, 539, (q_pE ext), (q_pR rx), L) I E 32 [some (.ref 492), some (.int x1), some (.int (q_min ((I 529) 5) (20 : Int32)))] [] [(492, r2.2.1), (497, r2.2.2), (529, (q_up (I 529) 5 (((I 529) 5) + (1 : Int32))))] []) (b := q_kc (t, r, 0, 529, 539, (q_pE ext), (q_pR rx), L) I E 30 [some (.ref 492), some (.int x1), some (.int (q_min ((I 529) 5) (20 : Int32)))] [] [(492, r2.2.1), (497, r2.2.2), (529, (q_up (I 529) 5 (((I 529) 5) + (1 : Int32))))] []) (P := ¬ (q_bz r2.1) = 0) ok_X15_isStep rfl q_cn (fun h3 => ?_) (fun h3 => ?_)
  · have hf := q_ip h3 hf
    obtain ⟨j4, hj4, hf⟩ := q_bd hf
    refine q_blk 10 [j4] (c' := q_kc (t, r, 0, 529, 539, (q_pE ext), (q_pR rx), L) I E 42 [some (.ref 492), some (.int x1), some (.int (q_min ((I 529) 5) (20 : Int32)))] [.int x1, .ref 492] [(492, r2.2.1), (497, r2.2.2), (529, (q_up (I 529) 5 (((I 529) 5) + (1 : Int32)))), (534, (q_up (I 534) j4 ((q_up (I 529) 5 (((I 529) 5) + (1 : Int32))) 14)))] []) ok_X15_isStep rfl (q_cc hj4 q_cn) ?_
    obtain ⟨r5, hr5, hf⟩ := q_bd hf
    refine q_kV (M2 := m_X15_isRest) (As := [.int x1]) (b := 492) (v2 := some (.int (q_bz r5.1))) ok_X15_isStep ok_X15_isRest cv_X15_isRest (ct_X15_isRest_492 (d := 8) (Nat.le_refl _) hr5) rfl rfl (Or.inl rfl) rfl rfl rfl rfl (Nat.le_trans (Nat.le_of_ble_eq_true rfl) hd) (Nat.le_of_ble_eq_true rfl) (Nat.le_of_ble_eq_true rfl) (Nat.le_of_ble_eq_true rfl) (fun x hx => absurd hx List.not_mem_nil) (q_nmL0 _) (q_nmS0 _) rfl (pos' := 43) (st' := [.int (q_bz r5.1)]) (lI' := [(492, r5.2.1), (497, r5.2.2.1), (529, r5.2.2.2.1), (534, (q_up (I 534) j4 ((q_up (I 529) 5 (((I 529) 5) + (1 : Int32))) 14))), (537, r5.2.2.2.2.1), (538, r5.2.2.2.2.2)]) (lE' := []) rfl rfl rfl rfl ?_
    refine q_blf 0 [] (a := q_kc (t, r, 0, 529, 539, (q_pE ext), (q_pR rx), L) I E 46 [some (.ref 492), some (.int x1), some (.int (q_min ((I 529) 5) (20 : Int32)))] [] [(492, r5.2.1), (497, r5.2.2.1), (529, r5.2.2.2.1), (534, (q_up (I 534) j4 ((q_up (I 529) 5 (((I 529) 5) + (1 : Int32))) 14))), (537, r5.2.2.2.2.1), (538, r5.2.2.2.2.2)] []) (b := q_kc (t, r, 0, 529, 539, (q_pE ext), (q_pR rx), L) I E 44 [some (.ref 492), some (.int x1), some (.int (q_min ((I 529) 5) (20 : Int32)))] [] [(492, r5.2.1), (497, r5.2.2.1), (529, r5.2.2.2.1), (534, (q_up (I 534) j4 ((q_up (I 529) 5 (((I 529) 5) + (1 : Int32))) 14))), (537, r5.2.2.2.2.1), (538, r5.2.2.2.2.2)] []) (P := ¬ (q_bz r5.1) = 0) ok_X15_isStep rfl q_cn (fun h6 => ?_) (fun h6 => ?_)
    · have hf := q_ip h6 hf
      obtain ⟨j7, hj7, hf⟩ := q_bd hf
      refine q_blk 10 [j7] (c' := q_kc (t, r, 0, 529, 539, (q_pE ext), (q_pR rx), L) I E 56 [some (.ref 492), some (.int x1), some (.int (q_min ((I 529) 5) (20 : Int32)))] [.int (15 : Int32), .ref 492] [(492, r5.2.1), (497, r5.2.2.1), (529, r5.2.2.2.1), (534, (q_up (I 534) j4 ((q_up (I 529) 5 (((I 529) 5) + (1 : Int32))) 14))), (535, (q_up (I 535) j7 (r5.2.2.2.1 14))), (537, r5.2.2.2.2.1), (538, r5.2.2.2.2.2)] []) ok_X15_isStep rfl (q_cc hj7 q_cn) ?_
      obtain ⟨r8, hr8, hf⟩ := q_bd hf
      refine q_kV (M2 := m_X15_eat) (As := [.int (15 : Int32)]) (b := 492) (v2 := some (.int (q_bz r8.1))) ok_X15_isStep ok_X15_eat cv_X15_eat (ct_X15_eat_492 (d := 2) (Nat.le_refl _) hr8) rfl rfl (Or.inl rfl) rfl rfl rfl rfl (Nat.le_trans (Nat.le_of_ble_eq_true rfl) hd) (Nat.le_of_ble_eq_true rfl) (Nat.le_of_ble_eq_true rfl) (Nat.le_of_ble_eq_true rfl) (fun x hx => absurd hx List.not_mem_nil) (q_nmL0 _) (q_nmS0 _) rfl (pos' := 57) (st' := [.int (q_bz r8.1)]) (lI' := [(492, r8.2), (497, r5.2.2.1), (529, r5.2.2.2.1), (534, (q_up (I 534) j4 ((q_up (I 529) 5 (((I 529) 5) + (1 : Int32))) 14))), (535, (q_up (I 535) j7 (r5.2.2.2.1 14))), (537, r5.2.2.2.2.1), (538, r5.2.2.2.2.2)]) (lE' := []) rfl rfl rfl rfl ?_
      refine q_blf 0 [] (a := q_kc (t, r, 0, 529, 539, (q_pE ext), (q_pR rx), L) I E 63 [some (.ref 492), some (.int x1), some (.int (q_min ((I 529) 5) (20 : Int32)))] [] [(492, r8.2), (497, r5.2.2.1), (529, r5.2.2.2.1), (534, (q_up (I 534) j4 ((q_up (I 529) 5 (((I 529) 5) + (1 : Int32))) 14))), (535, (q_up (I 535) j7 (r5.2.2.2.1 14))), (537, r5.2.2.2.2.1), (538, r5.2.2.2.2.2)] []) (b := q_kc (t, r, 0, 529, 539, (q_pE ext), (q_pR rx), L) I E 58 [some (.ref 492), some (.int x1), some (.int (q_min ((I 529) 5) (20 : Int32)))] [] [(492, r8.2), (497, r5.2.2.1), (529, r5.2.2.2.1), (534, (q_up (I 534) j4 ((q_up (I 529) 5 (((I 529) 5) + (1 : Int32))) 14))), (535, (q_up (I 535) j7 (r5.2.2.2.1 14))), (537, r5.2.2.2.2.1), (538, r5.2.2.2.2.2)] []) (P := (q_bz r8.1) = 0) ok_X15_isStep rfl q_cn (fun h9 => ?_) (fun h9 => ?_)
      · have hf := q_ip h9 hf
        obtain ⟨j10, hj10, hf⟩ := q_bd hf
        refine q_blk 9 [j10] (c' := q_kc (t, r, 0, 529, 539, (q_pE ext), (q_pR rx), L) I E 72 [some (.ref 492), some (.int x1), some (.int (q_min ((I 529) 5) (20 : Int32)))] [.int (1 : Int32)] [(492, r8.2), (497, r5.2.2.1), (529, r5.2.2.2.1), (534, (q_up (I 534) j4 ((q_up (I 529) 5 (((I 529) 5) + (1 : Int32))) 14))), (535, (q_up (I 535) j7 (r5.2.2.2.1 14))), (536, (q_up (I 536) j10 (r5.2.2.2.1 14))), (537, r5.2.2.2.2.1), (538, r5.2.2.2.2.2)] []) ok_X15_isStep rfl (q_cc hj10 q_cn) ?_
        cases hf
        exact q_kri ok_X15_isStep rfl rfl rfl (Nat.le_of_ble_eq_true rfl) (Nat.le_of_ble_eq_true rfl) ⟨rfl, q_hpe (q_fin [492, 497, 529, 534, 535, 536, 537, 538] rfl) (q_fin [] rfl)⟩
      · have hf := q_in h9 hf
        refine q_blk 1 [] (c' := q_kc (t, r, 0, 529, 539, (q_pE ext), (q_pR rx), L) I E 59 [some (.ref 492), some (.int x1), some (.int (q_min ((I 529) 5) (20 : Int32)))] [.ref 492] [(492, r8.2), (497, r5.2.2.1), (529, r5.2.2.2.1), (534, (q_up (I 534) j4 ((q_up (I 529) 5 (((I 529) 5) + (1 : Int32))) 14))), (535, (q_up (I 535) j7 (r5.2.2.2.1 14))), (537, r5.2.2.2.2.1), (538, r5.2.2.2.2.2)] []) ok_X15_isStep rfl q_cn ?_
        obtain ⟨r11, hr11, hf⟩ := q_bd hf
        refine q_kV (M2 := m_X15_isTest) (As := []) (b := 492) (v2 := some (.int (q_bz r11.1))) ok_X15_isStep ok_X15_isTest cv_X15_isTest (ct_X15_isTest_492 hq_isSingle hq_isTest hq_isValue hq_isSum hr11) rfl rfl (Or.inl rfl) rfl rfl rfl rfl (Nat.le_trans (Nat.le_of_ble_eq_true rfl) hd) (Nat.le_of_ble_eq_true rfl) (Nat.le_of_ble_eq_true rfl) (Nat.le_of_ble_eq_true rfl) (fun x hx => absurd hx List.not_mem_nil) (q_nmL0 _) (q_nmS0 _) rfl (pos' := 60) (st' := [.int (q_bz r11.1)]) (lI' := [(492, r11.2.1), (497, r11.2.2.1), (529, r11.2.2.2.1), (534, (q_up (I 534) j4 ((q_up (I 529) 5 (((I 529) 5) + (1 : Int32))) 14))), (535, (q_up (I 535) j7 (r5.2.2.2.1 14))), (537, r11.2.2.2.2.1), (538, r11.2.2.2.2.2)]) (lE' := []) rfl rfl rfl rfl ?_
        refine q_blf 0 [] (a := q_kc (t, r, 0, 529, 539, (q_pE ext), (q_pR rx), L) I E 63 [some (.ref 492), some (.int x1), some (.int (q_min ((I 529) 5) (20 : Int32)))] [] [(492, r11.2.1), (497, r11.2.2.1), (529, r11.2.2.2.1), (534, (q_up (I 534) j4 ((q_up (I 529) 5 (((I 529) 5) + (1 : Int32))) 14))), (535, (q_up (I 535) j7 (r5.2.2.2.1 14))), (537, r11.2.2.2.2.1), (538, r11.2.2.2.2.2)] []) (b := q_kc (t, r, 0, 529, 539, (q_pE ext), (q_pR rx), L) I E 61 [some (.ref 492), some (.int x1), some (.int (q_min ((I 529) 5) (20 : Int32)))] [] [(492, r11.2.1), (497, r11.2.2.1), (529, r11.2.2.2.1), (534, (q_up (I 534) j4 ((q_up (I 529) 5 (((I 529) 5) + (1 : Int32))) 14))), (535, (q_up (I 535) j7 (r5.2.2.2.1 14))), (537, r11.2.2.2.2.1), (538, r11.2.2.2.2.2)] []) (P := ¬ (q_bz r11.1) = 0) ok_X15_isStep rfl q_cn (fun h12 => ?_) (fun h12 => ?_)
        · have hf := q_ip h12 hf
          obtain ⟨j13, hj13, hf⟩ := q_bd hf
          refine q_blk 9 [j13] (c' := q_kc (t, r, 0, 529, 539, (q_pE ext), (q_pR rx), L) I E 72 [some (.ref 492), some (.int x1), some (.int (q_min ((I 529) 5) (20 : Int32)))] [.int (1 : Int32)] [(492, r11.2.1), (497, r11.2.2.1), (529, r11.2.2.2.1), (534, (q_up (I 534) j4 ((q_up (I 529) 5 (((I 529) 5) + (1 : Int32))) 14))), (535, (q_up (I 535) j7 (r5.2.2.2.1 14))), (536, (q_up (I 536) j13 (r11.2.2.2.1 14))), (537, r11.2.2.2.2.1), (538, r11.2.2.2.2.2)] []) ok_X15_isStep rfl (q_cc hj13 q_cn) ?_
          cases hf
          exact q_kri ok_X15_isStep rfl rfl rfl (Nat.le_of_ble_eq_true rfl) (Nat.le_of_ble_eq_true rfl) ⟨rfl, q_hpe (q_fin [492, 497, 529, 534, 535, 536, 537, 538] rfl) (q_fin [] rfl)⟩
        · have hf := q_in h12 hf
          refine q_blk 1 [] (c' := q_kc (t, r, 0, 529, 539, (q_pE ext), (q_pR rx), L) I E 62 [some (.ref 492), some (.int x1), some (.int (q_min ((I 529) 5) (20 : Int32)))] [.int (0 : Int32)] [(492, r11.2.1), (497, r11.2.2.1), (529, r11.2.2.2.1), (534, (q_up (I 534) j4 ((q_up (I 529) 5 (((I 529) 5) + (1 : Int32))) 14))), (535, (q_up (I 535) j7 (r5.2.2.2.1 14))), (537, r11.2.2.2.2.1), (538, r11.2.2.2.2.2)] []) ok_X15_isStep rfl q_cn ?_
          cases hf
          exact q_kri ok_X15_isStep rfl rfl rfl (Nat.le_of_ble_eq_true rfl) (Nat.le_of_ble_eq_true rfl) ⟨rfl, q_hpe (q_fin [492, 497, 529, 534, 535, 536, 537, 538] rfl) (q_fin [] rfl)⟩
    · have hf := q_in h6 hf
      refine q_blk 1 [] (c' := q_kc (t, r, 0, 529, 539, (q_pE ext), (q_pR rx), L) I E 45 [some (.ref 492), some (.int x1), some (.int (q_min ((I 529) 5) (20 : Int32)))] [.int (0 : Int32)] [(492, r5.2.1), (497, r5.2.2.1), (529, r5.2.2.2.1), (534, (q_up (I 534) j4 ((q_up (I 529) 5 (((I 529) 5) + (1 : Int32))) 14))), (537, r5.2.2.2.2.1), (538, r5.2.2.2.2.2)] []) ok_X15_isStep rfl q_cn ?_
      cases hf
      exact q_kri ok_X15_isStep rfl rfl rfl (Nat.le_of_ble_eq_true rfl) (Nat.le_of_ble_eq_true rfl) ⟨rfl, q_hpe (q_fin [492, 497, 529, 534, 535, 536, 537, 538] rfl) (q_fin [] rfl)⟩
  · have hf := q_in h3 hf
    refine q_blk 1 [] (c' := q_kc (t, r, 0, 529, 539, (q_pE ext), (q_pR rx), L) I E 31 [some (.ref 492), some (.int x1), some (.int (q_min ((I 529) 5) (20 : Int32)))] [.int (0 : Int32)] [(492, r2.2.1), (497, r2.2.2), (529, (q_up (I 529) 5 (((I 529) 5) + (1 : Int32))))] []) ok_X15_isStep rfl q_cn ?_
    cases hf
    exact q_kri ok_X15_isStep rfl rfl rfl (Nat.le_of_ble_eq_true rfl) (Nat.le_of_ble_eq_true rfl) ⟨rfl, q_hpe (q_fin [492, 497, 529, 534, 535, 536, 537, 538] rfl) (q_fin [] rfl)⟩
set_option maxHeartbeats 4000000 in
theorem ct_X15_isLine_492 {g : q_G} {t : Nat} {r : Nat} {ext : Nat → q_Sh} {rx : Nat → Nat → Option Nat} {L : Nat → Nat → Int64} {d : Nat} (hd : 12 ≤ d)  {I : Nat → Nat → Int32} {E : Nat → Nat → Option Nat} {r0 : Bool × (Nat → Int32) × (Nat → Int32) × (Nat → Int32) × (Nat → Int32) × (Nat → Int32) × (Nat → Int32) × (Nat → Int32) × (Nat → Int32)} (hf : f_X15_isLine (I 492) (I 493) (I 494) (I 495) (I 496) (I 497) (I 529) (I 534) (I 535) (I 536) (I 537) (I 538) = some r0) : q_Ct g m_X15_isLine d 0 0 [] [.ref 492] (q_hp (t, r, 0, 529, 539, (q_pE ext), (q_pR rx), L) I E) (fun o h' => o = .inl (some (.int (q_bz r0.1))) ∧ h' = q_hp (t, r, 0, 529, 539, (q_pE ext), (q_pR rx), L) (q_ws I [(492, r0.2.1), (497, r0.2.2.1), (529, r0.2.2.2.1), (534, r0.2.2.2.2.1), (535, r0.2.2.2.2.2.1), (536, r0.2.2.2.2.2.2.1), (537, r0.2.2.2.2.2.2.2.1), (538, r0.2.2.2.2.2.2.2.2)]) (q_ws E [])) := by
  rw [f_X15_isLine] at hf
  refine q_Ct_of ok_X15_isLine (Nat.le_of_ble_eq_true rfl) ?_ _ rfl rfl
  change q_J g m_X15_isLine d 0 0 _ [] _ 0 0 (q_kc (t, r, 0, 529, 539, (q_pE ext), (q_pR rx), L) I E 0 [some (.ref 492), none] [] [] [])
  obtain ⟨j1, hj1, hf⟩ := q_bd hf
  refine q_blf 8 [j1] (a := q_kc (t, r, 0, 529, 539, (q_pE ext), (q_pR rx), L) I E 21 [some (.ref 492), some (.int ((I 494) j1))] [] [] []) (b := q_kc (t, r, 0, 529, 539, (q_pE ext), (q_pR rx), L) I E 9 [some (.ref 492), some (.int ((I 494) j1))] [] [] []) (P := ((I 494) j1) = (4 : Int32)) ok_X15_isLine rfl (q_cc hj1 q_cn) (fun h2 => ?_) (fun h2 => ?_)
  · have hf := q_ip h2 hf
    refine q_blk 2 [] (c' := q_kc (t, r, 0, 529, 539, (q_pE ext), (q_pR rx), L) I E 23 [some (.ref 492), some (.int ((I 494) j1))] [.int ((I 494) j1), .ref 492] [] []) ok_X15_isLine rfl q_cn ?_
    obtain ⟨r3, hr3, hf⟩ := q_bd hf
    refine q_kV (M2 := m_X15_isStep) (As := [.int ((I 494) j1)]) (b := 492) (v2 := some (.int (q_bz r3.1))) ok_X15_isLine ok_X15_isStep cv_X15_isStep (ct_X15_isStep_492 (d := 11) (Nat.le_refl _) hr3) rfl rfl (Or.inl rfl) rfl rfl rfl rfl (Nat.le_trans (Nat.le_of_ble_eq_true rfl) hd) (Nat.le_of_ble_eq_true rfl) (Nat.le_of_ble_eq_true rfl) (Nat.le_of_ble_eq_true rfl) (fun x hx => absurd hx List.not_mem_nil) (q_nmL0 _) (q_nmS0 _) rfl (pos' := 24) (st' := [.int (q_bz r3.1)]) (lI' := [(492, r3.2.1), (497, r3.2.2.1), (529, r3.2.2.2.1), (534, r3.2.2.2.2.1), (535, r3.2.2.2.2.2.1), (536, r3.2.2.2.2.2.2.1), (537, r3.2.2.2.2.2.2.2.1), (538, r3.2.2.2.2.2.2.2.2)]) (lE' := []) rfl rfl rfl rfl ?_
    cases hf
    exact q_kri ok_X15_isLine rfl rfl (q_bz_nr _) (Nat.le_of_ble_eq_true rfl) (Nat.le_of_ble_eq_true rfl) ⟨rfl, q_hpe (q_fin [492, 497, 529, 534, 535, 536, 537, 538] rfl) (q_fin [] rfl)⟩
  · have hf := q_in h2 hf
    refine q_blf 2 [] (a := q_kc (t, r, 0, 529, 539, (q_pE ext), (q_pR rx), L) I E 21 [some (.ref 492), some (.int ((I 494) j1))] [] [] []) (b := q_kc (t, r, 0, 529, 539, (q_pE ext), (q_pR rx), L) I E 12 [some (.ref 492), some (.int ((I 494) j1))] [] [] []) (P := ((I 494) j1) = (7 : Int32)) ok_X15_isLine rfl q_cn (fun h4 => ?_) (fun h4 => ?_)
    · have hf := q_ip h4 hf
      refine q_blk 2 [] (c' := q_kc (t, r, 0, 529, 539, (q_pE ext), (q_pR rx), L) I E 23 [some (.ref 492), some (.int ((I 494) j1))] [.int ((I 494) j1), .ref 492] [] []) ok_X15_isLine rfl q_cn ?_
      obtain ⟨r5, hr5, hf⟩ := q_bd hf
      refine q_kV (M2 := m_X15_isStep) (As := [.int ((I 494) j1)]) (b := 492) (v2 := some (.int (q_bz r5.1))) ok_X15_isLine ok_X15_isStep cv_X15_isStep (ct_X15_isStep_492 (d := 11) (Nat.le_refl _) hr5) rfl rfl (Or.inl rfl) rfl rfl rfl rfl (Nat.le_trans (Nat.le_of_ble_eq_true rfl) hd) (Nat.le_of_ble_eq_true rfl) (Nat.le_of_ble_eq_true rfl) (Nat.le_of_ble_eq_true rfl) (fun x hx => absurd hx List.not_mem_nil) (q_nmL0 _) (q_nmS0 _) rfl (pos' := 24) (st' := [.int (q_bz r5.1)]) (lI' := [(492, r5.2.1), (497, r5.2.2.1), (529, r5.2.2.2.1), (534, r5.2.2.2.2.1), (535, r5.2.2.2.2.2.1), (536, r5.2.2.2.2.2.2.1), (537, r5.2.2.2.2.2.2.2.1), (538, r5.2.2.2.2.2.2.2.2)]) (lE' := []) rfl rfl rfl rfl ?_
      cases hf
      exact q_kri ok_X15_isLine rfl rfl (q_bz_nr _) (Nat.le_of_ble_eq_true rfl) (Nat.le_of_ble_eq_true rfl) ⟨rfl, q_hpe (q_fin [492, 497, 529, 534, 535, 536, 537, 538] rfl) (q_fin [] rfl)⟩
    · have hf := q_in h4 hf
      refine q_blf 2 [] (a := q_kc (t, r, 0, 529, 539, (q_pE ext), (q_pR rx), L) I E 21 [some (.ref 492), some (.int ((I 494) j1))] [] [] []) (b := q_kc (t, r, 0, 529, 539, (q_pE ext), (q_pR rx), L) I E 15 [some (.ref 492), some (.int ((I 494) j1))] [] [] []) (P := ((I 494) j1) = (10 : Int32)) ok_X15_isLine rfl q_cn (fun h6 => ?_) (fun h6 => ?_)
      · have hf := q_ip h6 hf
        refine q_blk 2 [] (c' := q_kc (t, r, 0, 529, 539, (q_pE ext), (q_pR rx), L) I E 23 [some (.ref 492), some (.int ((I 494) j1))] [.int ((I 494) j1), .ref 492] [] []) ok_X15_isLine rfl q_cn ?_
        obtain ⟨r7, hr7, hf⟩ := q_bd hf
        refine q_kV (M2 := m_X15_isStep) (As := [.int ((I 494) j1)]) (b := 492) (v2 := some (.int (q_bz r7.1))) ok_X15_isLine ok_X15_isStep cv_X15_isStep (ct_X15_isStep_492 (d := 11) (Nat.le_refl _) hr7) rfl rfl (Or.inl rfl) rfl rfl rfl rfl (Nat.le_trans (Nat.le_of_ble_eq_true rfl) hd) (Nat.le_of_ble_eq_true rfl) (Nat.le_of_ble_eq_true rfl) (Nat.le_of_ble_eq_true rfl) (fun x hx => absurd hx List.not_mem_nil) (q_nmL0 _) (q_nmS0 _) rfl (pos' := 24) (st' := [.int (q_bz r7.1)]) (lI' := [(492, r7.2.1), (497, r7.2.2.1), (529, r7.2.2.2.1), (534, r7.2.2.2.2.1), (535, r7.2.2.2.2.2.1), (536, r7.2.2.2.2.2.2.1), (537, r7.2.2.2.2.2.2.2.1), (538, r7.2.2.2.2.2.2.2.2)]) (lE' := []) rfl rfl rfl rfl ?_
        cases hf
        exact q_kri ok_X15_isLine rfl rfl (q_bz_nr _) (Nat.le_of_ble_eq_true rfl) (Nat.le_of_ble_eq_true rfl) ⟨rfl, q_hpe (q_fin [492, 497, 529, 534, 535, 536, 537, 538] rfl) (q_fin [] rfl)⟩
      · have hf := q_in h6 hf
        refine q_blf 2 [] (a := q_kc (t, r, 0, 529, 539, (q_pE ext), (q_pR rx), L) I E 21 [some (.ref 492), some (.int ((I 494) j1))] [] [] []) (b := q_kc (t, r, 0, 529, 539, (q_pE ext), (q_pR rx), L) I E 18 [some (.ref 492), some (.int ((I 494) j1))] [] [] []) (P := ((I 494) j1) = (11 : Int32)) ok_X15_isLine rfl q_cn (fun h8 => ?_) (fun h8 => ?_)
        · have hf := q_ip h8 hf
          refine q_blk 2 [] (c' := q_kc (t, r, 0, 529, 539, (q_pE ext), (q_pR rx), L) I E 23 [some (.ref 492), some (.int ((I 494) j1))] [.int ((I 494) j1), .ref 492] [] []) ok_X15_isLine rfl q_cn ?_
          obtain ⟨r9, hr9, hf⟩ := q_bd hf
          refine q_kV (M2 := m_X15_isStep) (As := [.int ((I 494) j1)]) (b := 492) (v2 := some (.int (q_bz r9.1))) ok_X15_isLine ok_X15_isStep cv_X15_isStep (ct_X15_isStep_492 (d := 11) (Nat.le_refl _) hr9) rfl rfl (Or.inl rfl) rfl rfl rfl rfl (Nat.le_trans (Nat.le_of_ble_eq_true rfl) hd) (Nat.le_of_ble_eq_true rfl) (Nat.le_of_ble_eq_true rfl) (Nat.le_of_ble_eq_true rfl) (fun x hx => absurd hx List.not_mem_nil) (q_nmL0 _) (q_nmS0 _) rfl (pos' := 24) (st' := [.int (q_bz r9.1)]) (lI' := [(492, r9.2.1), (497, r9.2.2.1), (529, r9.2.2.2.1), (534, r9.2.2.2.2.1), (535, r9.2.2.2.2.2.1), (536, r9.2.2.2.2.2.2.1), (537, r9.2.2.2.2.2.2.2.1), (538, r9.2.2.2.2.2.2.2.2)]) (lE' := []) rfl rfl rfl rfl ?_
          cases hf
          exact q_kri ok_X15_isLine rfl rfl (q_bz_nr _) (Nat.le_of_ble_eq_true rfl) (Nat.le_of_ble_eq_true rfl) ⟨rfl, q_hpe (q_fin [492, 497, 529, 534, 535, 536, 537, 538] rfl) (q_fin [] rfl)⟩
        · have hf := q_in h8 hf
          refine q_blf 2 [] (a := q_kc (t, r, 0, 529, 539, (q_pE ext), (q_pR rx), L) I E 25 [some (.ref 492), some (.int ((I 494) j1))] [] [] []) (b := q_kc (t, r, 0, 529, 539, (q_pE ext), (q_pR rx), L) I E 21 [some (.ref 492), some (.int ((I 494) j1))] [] [] []) (P := ¬ ((I 494) j1) = (14 : Int32)) ok_X15_isLine rfl q_cn (fun h10 => ?_) (fun h10 => ?_)
          · have hf := q_ip h10 hf
            refine q_blf 2 [] (a := q_kc (t, r, 0, 529, 539, (q_pE ext), (q_pR rx), L) I E 30 [some (.ref 492), some (.int ((I 494) j1))] [] [] []) (b := q_kc (t, r, 0, 529, 539, (q_pE ext), (q_pR rx), L) I E 28 [some (.ref 492), some (.int ((I 494) j1))] [] [] []) (P := ((I 494) j1) ≤ (3 : Int32)) ok_X15_isLine rfl q_cn (fun h11 => ?_) (fun h11 => ?_)
            · have hf := q_ip h11 hf
              refine q_blf 8 [] (a := q_kc (t, r, 0, 529, 539, (q_pE ext), (q_pR rx), L) I E 44 [some (.ref 492), some (.int ((I 494) j1))] [] [(492, (q_up (I 492) 9 (((I 492) 9) + (1 : Int32))))] []) (b := q_kc (t, r, 0, 529, 539, (q_pE ext), (q_pR rx), L) I E 39 [some (.ref 492), some (.int ((I 494) j1))] [] [(492, (q_up (I 492) 9 (((I 492) 9) + (1 : Int32))))] []) (P := ¬ ((I 494) j1) = (3 : Int32)) ok_X15_isLine rfl q_cn (fun h12 => ?_) (fun h12 => ?_)
              · have hf := q_ip h12 hf
                refine q_blf 3 [] (a := q_kc (t, r, 0, 529, 539, (q_pE ext), (q_pR rx), L) I E 50 [some (.ref 492), some (.int ((I 494) j1))] [.int (41 : Int32), .ref 492] [(492, (q_up (I 492) 9 (((I 492) 9) + (1 : Int32))))] []) (b := q_kc (t, r, 0, 529, 539, (q_pE ext), (q_pR rx), L) I E 48 [some (.ref 492), some (.int ((I 494) j1))] [.int (41 : Int32), .ref 492] [(492, (q_up (I 492) 9 (((I 492) 9) + (1 : Int32))))] []) (P := ¬ ((I 494) j1) = 0) ok_X15_isLine rfl q_cn (fun h13 => ?_) (fun h13 => ?_)
                · have hf := q_ip h13 hf
                  refine q_blf 2 [] (a := q_kc (t, r, 0, 529, 539, (q_pE ext), (q_pR rx), L) I E 55 [some (.ref 492), some (.int ((I 494) j1))] [.int (41 : Int32), .ref 492] [(492, (q_up (I 492) 9 (((I 492) 9) + (1 : Int32))))] []) (b := q_kc (t, r, 0, 529, 539, (q_pE ext), (q_pR rx), L) I E 53 [some (.ref 492), some (.int ((I 494) j1))] [.int (41 : Int32), .ref 492] [(492, (q_up (I 492) 9 (((I 492) 9) + (1 : Int32))))] []) (P := ¬ ((I 494) j1) = (1 : Int32)) ok_X15_isLine rfl q_cn (fun h14 => ?_) (fun h14 => ?_)
                  · have hf := q_ip h14 hf
                    refine q_blk 1 [] (c' := q_kc (t, r, 0, 529, 539, (q_pE ext), (q_pR rx), L) I E 56 [some (.ref 492), some (.int ((I 494) j1))] [.int (8 : Int32), .int (41 : Int32), .ref 492] [(492, (q_up (I 492) 9 (((I 492) 9) + (1 : Int32))))] []) ok_X15_isLine rfl q_cn ?_
                    obtain ⟨r15, hr15, hf⟩ := q_bd hf
                    refine q_kV (M2 := m_X15_eatAs) (As := [.int (41 : Int32), .int (8 : Int32)]) (b := 492) (v2 := some (.int (q_bz r15.1))) ok_X15_isLine ok_X15_eatAs cv_X15_eatAs (ct_X15_eatAs_492 (d := 3) (Nat.le_refl _) hr15) rfl rfl (Or.inl rfl) rfl rfl rfl rfl (Nat.le_trans (Nat.le_of_ble_eq_true rfl) hd) (Nat.le_of_ble_eq_true rfl) (Nat.le_of_ble_eq_true rfl) (Nat.le_of_ble_eq_true rfl) (fun x hx => absurd hx List.not_mem_nil) (q_nmL0 _) (q_nmS0 _) rfl (pos' := 57) (st' := [.int (q_bz r15.1)]) (lI' := [(492, r15.2.1), (497, r15.2.2)]) (lE' := []) rfl rfl rfl rfl ?_
                    cases hf
                    exact q_kri ok_X15_isLine rfl rfl (q_bz_nr _) (Nat.le_of_ble_eq_true rfl) (Nat.le_of_ble_eq_true rfl) ⟨rfl, q_hpe (q_fin [492, 497, 529, 534, 535, 536, 537, 538] rfl) (q_fin [] rfl)⟩
                  · have hf := q_in h14 hf
                    refine q_blk 2 [] (c' := q_kc (t, r, 0, 529, 539, (q_pE ext), (q_pR rx), L) I E 56 [some (.ref 492), some (.int ((I 494) j1))] [.int (7 : Int32), .int (41 : Int32), .ref 492] [(492, (q_up (I 492) 9 (((I 492) 9) + (1 : Int32))))] []) ok_X15_isLine rfl q_cn ?_
                    obtain ⟨r16, hr16, hf⟩ := q_bd hf
                    refine q_kV (M2 := m_X15_eatAs) (As := [.int (41 : Int32), .int (7 : Int32)]) (b := 492) (v2 := some (.int (q_bz r16.1))) ok_X15_isLine ok_X15_eatAs cv_X15_eatAs (ct_X15_eatAs_492 (d := 3) (Nat.le_refl _) hr16) rfl rfl (Or.inl rfl) rfl rfl rfl rfl (Nat.le_trans (Nat.le_of_ble_eq_true rfl) hd) (Nat.le_of_ble_eq_true rfl) (Nat.le_of_ble_eq_true rfl) (Nat.le_of_ble_eq_true rfl) (fun x hx => absurd hx List.not_mem_nil) (q_nmL0 _) (q_nmS0 _) rfl (pos' := 57) (st' := [.int (q_bz r16.1)]) (lI' := [(492, r16.2.1), (497, r16.2.2)]) (lE' := []) rfl rfl rfl rfl ?_
                    cases hf
                    exact q_kri ok_X15_isLine rfl rfl (q_bz_nr _) (Nat.le_of_ble_eq_true rfl) (Nat.le_of_ble_eq_true rfl) ⟨rfl, q_hpe (q_fin [492, 497, 529, 534, 535, 536, 537, 538] rfl) (q_fin [] rfl)⟩
                · have hf := q_in h13 hf
                  refine q_blk 2 [] (c' := q_kc (t, r, 0, 529, 539, (q_pE ext), (q_pR rx), L) I E 56 [some (.ref 492), some (.int ((I 494) j1))] [.int (6 : Int32), .int (41 : Int32), .ref 492] [(492, (q_up (I 492) 9 (((I 492) 9) + (1 : Int32))))] []) ok_X15_isLine rfl q_cn ?_
                  obtain ⟨r17, hr17, hf⟩ := q_bd hf
                  refine q_kV (M2 := m_X15_eatAs) (As := [.int (41 : Int32), .int (6 : Int32)]) (b := 492) (v2 := some (.int (q_bz r17.1))) ok_X15_isLine ok_X15_eatAs cv_X15_eatAs (ct_X15_eatAs_492 (d := 3) (Nat.le_refl _) hr17) rfl rfl (Or.inl rfl) rfl rfl rfl rfl (Nat.le_trans (Nat.le_of_ble_eq_true rfl) hd) (Nat.le_of_ble_eq_true rfl) (Nat.le_of_ble_eq_true rfl) (Nat.le_of_ble_eq_true rfl) (fun x hx => absurd hx List.not_mem_nil) (q_nmL0 _) (q_nmS0 _) rfl (pos' := 57) (st' := [.int (q_bz r17.1)]) (lI' := [(492, r17.2.1), (497, r17.2.2)]) (lE' := []) rfl rfl rfl rfl ?_
                  cases hf
                  exact q_kri ok_X15_isLine rfl rfl (q_bz_nr _) (Nat.le_of_ble_eq_true rfl) (Nat.le_of_ble_eq_true rfl) ⟨rfl, q_hpe (q_fin [492, 497, 529, 534, 535, 536, 537, 538] rfl) (q_fin [] rfl)⟩
              · have hf := q_in h12 hf
                refine q_blk 3 [] (c' := q_kc (t, r, 0, 529, 539, (q_pE ext), (q_pR rx), L) I E 42 [some (.ref 492), some (.int ((I 494) j1))] [.int (1 : Int32), .int (40 : Int32), .ref 492] [(492, (q_up (I 492) 9 (((I 492) 9) + (1 : Int32))))] []) ok_X15_isLine rfl q_cn ?_
                obtain ⟨r18, hr18, hf⟩ := q_bd hf
                refine q_kV (M2 := m_X15_eatAs) (As := [.int (40 : Int32), .int (1 : Int32)]) (b := 492) (v2 := some (.int (q_bz r18.1))) ok_X15_isLine ok_X15_eatAs cv_X15_eatAs (ct_X15_eatAs_492 (d := 3) (Nat.le_refl _) hr18) rfl rfl (Or.inl rfl) rfl rfl rfl rfl (Nat.le_trans (Nat.le_of_ble_eq_true rfl) hd) (Nat.le_of_ble_eq_true rfl) (Nat.le_of_ble_eq_true rfl) (Nat.le_of_ble_eq_true rfl) (fun x hx => absurd hx List.not_mem_nil) (q_nmL0 _) (q_nmS0 _) rfl (pos' := 43) (st' := [.int (q_bz r18.1)]) (lI' := [(492, r18.2.1), (497, r18.2.2)]) (lE' := []) rfl rfl rfl rfl ?_
                refine q_blk 1 [] (c' := q_kc (t, r, 0, 529, 539, (q_pE ext), (q_pR rx), L) I E 57 [some (.ref 492), some (.int ((I 494) j1))] [.int (q_bz r18.1)] [(492, r18.2.1), (497, r18.2.2)] []) ok_X15_isLine rfl q_cn ?_
                cases hf
                exact q_kri ok_X15_isLine rfl rfl (q_bz_nr _) (Nat.le_of_ble_eq_true rfl) (Nat.le_of_ble_eq_true rfl) ⟨rfl, q_hpe (q_fin [492, 497, 529, 534, 535, 536, 537, 538] rfl) (q_fin [] rfl)⟩
            · have hf := q_in h11 hf
              refine q_blk 1 [] (c' := q_kc (t, r, 0, 529, 539, (q_pE ext), (q_pR rx), L) I E 29 [some (.ref 492), some (.int ((I 494) j1))] [.int (0 : Int32)] [] []) ok_X15_isLine rfl q_cn ?_
              cases hf
              exact q_kri ok_X15_isLine rfl rfl rfl (Nat.le_of_ble_eq_true rfl) (Nat.le_of_ble_eq_true rfl) ⟨rfl, q_hpe (q_fin [492, 497, 529, 534, 535, 536, 537, 538] rfl) (q_fin [] rfl)⟩
          · have hf := q_in h10 hf
            refine q_blk 2 [] (c' := q_kc (t, r, 0, 529, 539, (q_pE ext), (q_pR rx), L) I E 23 [some (.ref 492), some (.int ((I 494) j1))] [.int ((I 494) j1), .ref 492] [] []) ok_X15_isLine rfl q_cn ?_
            obtain ⟨r19, hr19, hf⟩ := q_bd hf
            refine q_kV (M2 := m_X15_isStep) (As := [.int ((I 494) j1)]) (b := 492) (v2 := some (.int (q_bz r19.1))) ok_X15_isLine ok_X15_isStep cv_X15_isStep (ct_X15_isStep_492 (d := 11) (Nat.le_refl _) hr19) rfl rfl (Or.inl rfl) rfl rfl rfl rfl (Nat.le_trans (Nat.le_of_ble_eq_true rfl) hd) (Nat.le_of_ble_eq_true rfl) (Nat.le_of_ble_eq_true rfl) (Nat.le_of_ble_eq_true rfl) (fun x hx => absurd hx List.not_mem_nil) (q_nmL0 _) (q_nmS0 _) rfl (pos' := 24) (st' := [.int (q_bz r19.1)]) (lI' := [(492, r19.2.1), (497, r19.2.2.1), (529, r19.2.2.2.1), (534, r19.2.2.2.2.1), (535, r19.2.2.2.2.2.1), (536, r19.2.2.2.2.2.2.1), (537, r19.2.2.2.2.2.2.2.1), (538, r19.2.2.2.2.2.2.2.2)]) (lE' := []) rfl rfl rfl rfl ?_
            cases hf
            exact q_kri ok_X15_isLine rfl rfl (q_bz_nr _) (Nat.le_of_ble_eq_true rfl) (Nat.le_of_ble_eq_true rfl) ⟨rfl, q_hpe (q_fin [492, 497, 529, 534, 535, 536, 537, 538] rfl) (q_fin [] rfl)⟩
set_option maxHeartbeats 4000000 in
theorem lp_X15_isBarn_L0_492 {g : q_G} {d mc ms : Nat} {h0 : q_H} {Q : (Option Value ⊕ String) → q_H → Prop} {k n : Nat} {t : Nat} {r : Nat} {ext : Nat → q_Sh} {rx : Nat → Nat → Option Nat} {L : Nat → Nat → Int64} (hd : 13 ≤ d) (hk : k ≤ mc) (hn : n ≤ ms)  : ∀ (fu : Nat) {I : Nat → Nat → Int32} {E : Nat → Nat → Option Nat} {r0 : Nat × (Nat → Int32) × (Nat → Int32) × (Nat → Int32) × (Nat → Int32) × (Nat → Int32) × (Nat → Int32) × (Nat → Int32) × (Nat → Int32)} (hf : f_X15_isBarn_L0 (I 493) (I 494) (I 495) (I 496) fu (I 492) (I 497) (I 529) (I 534) (I 535) (I 536) (I 537) (I 538) = some r0) (hK0 : r0.1 = 0 → q_J g m_X15_isBarn d mc ms h0 [] Q k n (q_kc (t, r, 0, 529, 539, (q_pE ext), (q_pR rx), L) I E 13 [none] [] [(492, r0.2.1), (497, r0.2.2.1), (529, r0.2.2.2.1), (534, r0.2.2.2.2.1), (535, r0.2.2.2.2.2.1), (536, r0.2.2.2.2.2.2.1), (537, r0.2.2.2.2.2.2.2.1), (538, r0.2.2.2.2.2.2.2.2)] [])) (hK1 : r0.1 = 1 → q_J g m_X15_isBarn d mc ms h0 [] Q k n (q_kc (t, r, 0, 529, 539, (q_pE ext), (q_pR rx), L) I E 11 [none] [] [(492, r0.2.1), (497, r0.2.2.1), (529, r0.2.2.2.1), (534, r0.2.2.2.2.1), (535, r0.2.2.2.2.2.1), (536, r0.2.2.2.2.2.2.1), (537, r0.2.2.2.2.2.2.2.1), (538, r0.2.2.2.2.2.2.2.2)] [])), q_J g m_X15_isBarn d mc ms h0 [] Q k n (0, [some (.ref 492)], [], q_hp (t, r, 0, 529, 539, (q_pE ext), (q_pR rx), L) I E) := by
  intro fu
  induction fu with
  | zero =>
    intro I E r0 hf hK0 hK1
    rw [f_X15_isBarn_L0] at hf
    cases hf
  | succ fu ih =>
    intro I E r0 hf hK0 hK1
    rw [f_X15_isBarn_L0] at hf
    change q_J g m_X15_isBarn d mc ms h0 [] Q k n (q_kc (t, r, 0, 529, 539, (q_pE ext), (q_pR rx), L) I E 0 [some (.ref 492)] [] [] [])
    refine q_blk 2 [] (c' := q_kc (t, r, 0, 529, 539, (q_pE ext), (q_pR rx), L) I E 2 [some (.ref 492)] [.int (900 : Int32), .ref 492] [] []) ok_X15_isBarn rfl q_cn ?_
    obtain ⟨r1, hr1, hf⟩ := q_bd hf
    refine q_kV (M2 := m_X15_is) (As := [.int (900 : Int32)]) (b := 492) (v2 := some (.int (q_bz r1))) ok_X15_isBarn ok_X15_is cv_X15_is (ct_X15_is_492 (d := 1) (Nat.le_refl _) hr1) rfl rfl (Or.inl rfl) rfl rfl rfl rfl (Nat.le_trans (Nat.le_of_ble_eq_true rfl) hd) hk hn (Nat.le_of_ble_eq_true rfl) (fun x hx => absurd hx List.not_mem_nil) (q_nmL0 _) (q_nmS0 _) rfl (pos' := 3) (st' := [.int (q_bz r1)]) (lI' := []) (lE' := []) rfl rfl rfl rfl ?_
    refine q_blf 0 [] (a := q_kc (t, r, 0, 529, 539, (q_pE ext), (q_pR rx), L) I E 13 [some (.ref 492)] [] [] []) (b := q_kc (t, r, 0, 529, 539, (q_pE ext), (q_pR rx), L) I E 4 [some (.ref 492)] [] [] []) (P := ¬ (q_bz r1) = 0) ok_X15_isBarn rfl q_cn (fun h2 => ?_) (fun h2 => ?_)
    · have hf := q_ip h2 hf
      refine q_less (ls' := [none]) (q_sb1 q_sb0) ?_
      cases hf
      exact q_Jpad [492, 497, 529, 534, 535, 536, 537, 538] [] rfl rfl (hK0 rfl)
    · have hf := q_in h2 hf
      refine q_blk 1 [] (c' := q_kc (t, r, 0, 529, 539, (q_pE ext), (q_pR rx), L) I E 5 [some (.ref 492)] [.ref 492] [] []) ok_X15_isBarn rfl q_cn ?_
      obtain ⟨r3, hr3, hf⟩ := q_bd hf
      refine q_kV (M2 := m_X15_isLine) (As := []) (b := 492) (v2 := some (.int (q_bz r3.1))) ok_X15_isBarn ok_X15_isLine cv_X15_isLine (ct_X15_isLine_492 (d := 12) (Nat.le_refl _) hr3) rfl rfl (Or.inl rfl) rfl rfl rfl rfl (Nat.le_trans (Nat.le_of_ble_eq_true rfl) hd) hk hn (Nat.le_of_ble_eq_true rfl) (fun x hx => absurd hx List.not_mem_nil) (q_nmL0 _) (q_nmS0 _) rfl (pos' := 6) (st' := [.int (q_bz r3.1)]) (lI' := [(492, r3.2.1), (497, r3.2.2.1), (529, r3.2.2.2.1), (534, r3.2.2.2.2.1), (535, r3.2.2.2.2.2.1), (536, r3.2.2.2.2.2.2.1), (537, r3.2.2.2.2.2.2.2.1), (538, r3.2.2.2.2.2.2.2.2)]) (lE' := []) rfl rfl rfl rfl ?_
      refine q_blf 0 [] (a := q_kc (t, r, 0, 529, 539, (q_pE ext), (q_pR rx), L) I E 11 [some (.ref 492)] [] [(492, r3.2.1), (497, r3.2.2.1), (529, r3.2.2.2.1), (534, r3.2.2.2.2.1), (535, r3.2.2.2.2.2.1), (536, r3.2.2.2.2.2.2.1), (537, r3.2.2.2.2.2.2.2.1), (538, r3.2.2.2.2.2.2.2.2)] []) (b := q_kc (t, r, 0, 529, 539, (q_pE ext), (q_pR rx), L) I E 7 [some (.ref 492)] [] [(492, r3.2.1), (497, r3.2.2.1), (529, r3.2.2.2.1), (534, r3.2.2.2.2.1), (535, r3.2.2.2.2.2.1), (536, r3.2.2.2.2.2.2.1), (537, r3.2.2.2.2.2.2.2.1), (538, r3.2.2.2.2.2.2.2.2)] []) (P := (q_bz r3.1) = 0) ok_X15_isBarn rfl q_cn (fun h4 => ?_) (fun h4 => ?_)
      · have hf := q_ip h4 hf
        refine q_less (ls' := [none]) (q_sb1 q_sb0) ?_
        cases hf
        exact q_Jpad [492, 497, 529, 534, 535, 536, 537, 538] [] rfl rfl (hK1 rfl)
      · have hf := q_in h4 hf
        refine q_blk 2 [] (c' := q_kc (t, r, 0, 529, 539, (q_pE ext), (q_pR rx), L) I E 9 [some (.ref 492)] [.int (59 : Int32), .ref 492] [(492, r3.2.1), (497, r3.2.2.1), (529, r3.2.2.2.1), (534, r3.2.2.2.2.1), (535, r3.2.2.2.2.2.1), (536, r3.2.2.2.2.2.2.1), (537, r3.2.2.2.2.2.2.2.1), (538, r3.2.2.2.2.2.2.2.2)] []) ok_X15_isBarn rfl q_cn ?_
        obtain ⟨r5, hr5, hf⟩ := q_bd hf
        refine q_kV (M2 := m_X15_eatSign) (As := [.int (59 : Int32)]) (b := 492) (v2 := some (.int (q_bz r5.1))) ok_X15_isBarn ok_X15_eatSign cv_X15_eatSign (ct_X15_eatSign_492 (d := 3) (Nat.le_refl _) hr5) rfl rfl (Or.inl rfl) rfl rfl rfl rfl (Nat.le_trans (Nat.le_of_ble_eq_true rfl) hd) hk hn (Nat.le_of_ble_eq_true rfl) (fun x hx => absurd hx List.not_mem_nil) (q_nmL0 _) (q_nmS0 _) rfl (pos' := 10) (st' := [.int (q_bz r5.1)]) (lI' := [(492, r5.2), (497, r3.2.2.1), (529, r3.2.2.2.1), (534, r3.2.2.2.2.1), (535, r3.2.2.2.2.2.1), (536, r3.2.2.2.2.2.2.1), (537, r3.2.2.2.2.2.2.2.1), (538, r3.2.2.2.2.2.2.2.2)]) (lE' := []) rfl rfl rfl rfl ?_
        refine q_blf 0 [] (a := q_kc (t, r, 0, 529, 539, (q_pE ext), (q_pR rx), L) I E 0 [some (.ref 492)] [] [(492, r5.2), (497, r3.2.2.1), (529, r3.2.2.2.1), (534, r3.2.2.2.2.1), (535, r3.2.2.2.2.2.1), (536, r3.2.2.2.2.2.2.1), (537, r3.2.2.2.2.2.2.2.1), (538, r3.2.2.2.2.2.2.2.2)] []) (b := q_kc (t, r, 0, 529, 539, (q_pE ext), (q_pR rx), L) I E 11 [some (.ref 492)] [] [(492, r5.2), (497, r3.2.2.1), (529, r3.2.2.2.1), (534, r3.2.2.2.2.1), (535, r3.2.2.2.2.2.1), (536, r3.2.2.2.2.2.2.1), (537, r3.2.2.2.2.2.2.2.1), (538, r3.2.2.2.2.2.2.2.2)] []) (P := ¬ (q_bz r5.1) = 0) ok_X15_isBarn rfl q_cn (fun h6 => ?_) (fun h6 => ?_)
        · have hf := q_ip h6 hf
          exact ih (I := q_ws I [(492, r5.2), (497, r3.2.2.1), (529, r3.2.2.2.1), (534, r3.2.2.2.2.1), (535, r3.2.2.2.2.2.1), (536, r3.2.2.2.2.2.2.1), (537, r3.2.2.2.2.2.2.2.1), (538, r3.2.2.2.2.2.2.2.2)]) (E := q_ws E []) hf (fun hz => q_Jmrg rfl rfl (hK0 hz)) (fun hz => q_Jmrg rfl rfl (hK1 hz))
        · have hf := q_in h6 hf
          refine q_less (ls' := [none]) (q_sb1 q_sb0) ?_
          cases hf
          exact q_Jpad [492, 497, 529, 534, 535, 536, 537, 538] [] rfl rfl (hK1 rfl)
set_option maxHeartbeats 4000000 in
theorem ct_X15_isBarn_492 {g : q_G} {t : Nat} {r : Nat} {ext : Nat → q_Sh} {rx : Nat → Nat → Option Nat} {L : Nat → Nat → Int64} {d : Nat} (hd : 13 ≤ d)  {I : Nat → Nat → Int32} {E : Nat → Nat → Option Nat} {r0 : Bool × (Nat → Int32) × (Nat → Int32) × (Nat → Int32) × (Nat → Int32) × (Nat → Int32) × (Nat → Int32) × (Nat → Int32) × (Nat → Int32)} (hf : f_X15_isBarn (I 492) (I 493) (I 494) (I 495) (I 496) (I 497) (I 529) (I 534) (I 535) (I 536) (I 537) (I 538) = some r0) : q_Ct g m_X15_isBarn d 0 0 [] [.ref 492] (q_hp (t, r, 0, 529, 539, (q_pE ext), (q_pR rx), L) I E) (fun o h' => o = .inl (some (.int (q_bz r0.1))) ∧ h' = q_hp (t, r, 0, 529, 539, (q_pE ext), (q_pR rx), L) (q_ws I [(492, r0.2.1), (497, r0.2.2.1), (529, r0.2.2.2.1), (534, r0.2.2.2.2.1), (535, r0.2.2.2.2.2.1), (536, r0.2.2.2.2.2.2.1), (537, r0.2.2.2.2.2.2.2.1), (538, r0.2.2.2.2.2.2.2.2)]) (q_ws E [])) := by
  rw [f_X15_isBarn] at hf
  refine q_Ct_of ok_X15_isBarn (Nat.le_of_ble_eq_true rfl) ?_ _ rfl rfl
  change q_J g m_X15_isBarn d 0 0 _ [] _ 0 0 (q_kc (t, r, 0, 529, 539, (q_pE ext), (q_pR rx), L) I E 0 [some (.ref 492)] [] [] [])
  obtain ⟨r7, hr7, hf⟩ := q_bd hf
  refine lp_X15_isBarn_L0_492 (I := q_ws I []) (E := q_ws E []) hd (Nat.le_of_ble_eq_true rfl) (Nat.le_of_ble_eq_true rfl) 4096 hr7 ?_ ?_
  · intro hz0
    have hf := q_ip hz0 hf
    refine q_Jmrg (lI' := [(492, r7.2.1), (497, r7.2.2.1), (529, r7.2.2.2.1), (534, r7.2.2.2.2.1), (535, r7.2.2.2.2.2.1), (536, r7.2.2.2.2.2.2.1), (537, r7.2.2.2.2.2.2.2.1), (538, r7.2.2.2.2.2.2.2.2)]) (lE' := []) rfl rfl ?_
    refine q_blk 1 [] (c' := q_kc (t, r, 0, 529, 539, (q_pE ext), (q_pR rx), L) I E 14 [none] [.int (1 : Int32)] [(492, r7.2.1), (497, r7.2.2.1), (529, r7.2.2.2.1), (534, r7.2.2.2.2.1), (535, r7.2.2.2.2.2.1), (536, r7.2.2.2.2.2.2.1), (537, r7.2.2.2.2.2.2.2.1), (538, r7.2.2.2.2.2.2.2.2)] []) ok_X15_isBarn rfl q_cn ?_
    cases hf
    exact q_kri ok_X15_isBarn rfl rfl rfl (Nat.le_of_ble_eq_true rfl) (Nat.le_of_ble_eq_true rfl) ⟨rfl, q_hpe (q_fin [492, 497, 529, 534, 535, 536, 537, 538] rfl) (q_fin [] rfl)⟩
  · intro hz1
    have hf := q_in (fun h9 => absurd (hz1.symm.trans h9) (by decide)) hf
    refine q_Jmrg (lI' := [(492, r7.2.1), (497, r7.2.2.1), (529, r7.2.2.2.1), (534, r7.2.2.2.2.1), (535, r7.2.2.2.2.2.1), (536, r7.2.2.2.2.2.2.1), (537, r7.2.2.2.2.2.2.2.1), (538, r7.2.2.2.2.2.2.2.2)]) (lE' := []) rfl rfl ?_
    refine q_blk 1 [] (c' := q_kc (t, r, 0, 529, 539, (q_pE ext), (q_pR rx), L) I E 12 [none] [.int (0 : Int32)] [(492, r7.2.1), (497, r7.2.2.1), (529, r7.2.2.2.1), (534, r7.2.2.2.2.1), (535, r7.2.2.2.2.2.1), (536, r7.2.2.2.2.2.2.1), (537, r7.2.2.2.2.2.2.2.1), (538, r7.2.2.2.2.2.2.2.2)] []) ok_X15_isBarn rfl q_cn ?_
    cases hf
    exact q_kri ok_X15_isBarn rfl rfl rfl (Nat.le_of_ble_eq_true rfl) (Nat.le_of_ble_eq_true rfl) ⟨rfl, q_hpe (q_fin [492, 497, 529, 534, 535, 536, 537, 538] rfl) (q_fin [] rfl)⟩
set_option maxHeartbeats 4000000 in
theorem lp_X15_isSame_L13_492 {g : q_G} {d mc ms : Nat} {h0 : q_H} {Q : (Option Value ⊕ String) → q_H → Prop} {k n : Nat} {t : Nat} {r : Nat} {ext : Nat → q_Sh} {rx : Nat → Nat → Option Nat} {L : Nat → Nat → Int64} (hd : 1 ≤ d) (hk : k ≤ mc) (hn : n ≤ ms)  {v1 : Int32} {v2 : Int32} : ∀ (fu : Nat) {I : Nat → Nat → Int32} {E : Nat → Nat → Option Nat} {v3 : Int32} {r0 : Nat} (hf : f_X15_isSame_L13 (I 493) (I 495) (I 496) v1 v2 fu v3 = some r0) (hK0 : r0.1 = 0 → q_J g m_X15_isSame d mc ms h0 [] Q k n (q_kc (t, r, 0, 529, 539, (q_pE ext), (q_pR rx), L) I E 42 [none, none, none, none] [] [] [])) (hK1 : r0.1 = 1 → q_J g m_X15_isSame d mc ms h0 [] Q k n (q_kc (t, r, 0, 529, 539, (q_pE ext), (q_pR rx), L) I E 38 [none, none, none, none] [] [] [])), q_J g m_X15_isSame d mc ms h0 [] Q k n (13, [some (.ref 492), some (.int v1), some (.int v2), some (.int v3)], [], q_hp (t, r, 0, 529, 539, (q_pE ext), (q_pR rx), L) I E) := by
  intro fu
  induction fu with
  | zero =>
    intro I E v3 r0 hf hK0 hK1
    rw [f_X15_isSame_L13] at hf
    cases hf
  | succ fu ih =>
    intro I E v3 r0 hf hK0 hK1
    rw [f_X15_isSame_L13] at hf
    change q_J g m_X15_isSame d mc ms h0 [] Q k n (q_kc (t, r, 0, 529, 539, (q_pE ext), (q_pR rx), L) I E 13 [some (.ref 492), some (.int v1), some (.int v2), some (.int v3)] [] [] [])
    obtain ⟨j1, hj1, hf⟩ := q_bd hf
    refine q_blf 5 [j1] (a := q_kc (t, r, 0, 529, 539, (q_pE ext), (q_pR rx), L) I E 42 [some (.ref 492), some (.int v1), some (.int v2), some (.int v3)] [] [] []) (b := q_kc (t, r, 0, 529, 539, (q_pE ext), (q_pR rx), L) I E 19 [some (.ref 492), some (.int v1), some (.int v2), some (.int v3)] [] [] []) (P := ((I 496) j1) ≤ v3) ok_X15_isSame rfl (q_cc hj1 q_cn) (fun h2 => ?_) (fun h2 => ?_)
    · have hf := q_ip h2 hf
      refine q_less (ls' := [none, none, none, none]) (q_sb1 (q_sb1 (q_sb1 (q_sb1 q_sb0)))) ?_
      cases hf
      exact q_Jpad [] [] rfl rfl (hK0 rfl)
    · have hf := q_in h2 hf
      obtain ⟨j3, hj3, hf⟩ := q_bd hf
      obtain ⟨j4, hj4, hf⟩ := q_bd hf
      obtain ⟨j5, hj5, hf⟩ := q_bd hf
      obtain ⟨j6, hj6, hf⟩ := q_bd hf
      refine q_blf 18 [j3, j4, j5, j6] (a := q_kc (t, r, 0, 529, 539, (q_pE ext), (q_pR rx), L) I E 40 [some (.ref 492), some (.int v1), some (.int v2), some (.int v3)] [] [] []) (b := q_kc (t, r, 0, 529, 539, (q_pE ext), (q_pR rx), L) I E 38 [some (.ref 492), some (.int v1), some (.int v2), some (.int v3)] [] [] []) (P := ((I 493) j4) = ((I 493) j6)) ok_X15_isSame rfl (q_cc hj6 (q_cc hj5 (q_cc hj4 (q_cc hj3 q_cn)))) (fun h7 => ?_) (fun h7 => ?_)
      · have hf := q_ip h7 hf
        refine q_blk 2 [] (c' := q_kc (t, r, 0, 529, 539, (q_pE ext), (q_pR rx), L) I E 13 [some (.ref 492), some (.int v1), some (.int v2), some (.int (v3 + 1))] [] [] []) ok_X15_isSame rfl q_cn ?_
        exact ih (I := q_ws I []) (E := q_ws E []) hf (fun hz => q_Jmrg rfl rfl (hK0 hz)) (fun hz => q_Jmrg rfl rfl (hK1 hz))
      · have hf := q_in h7 hf
        refine q_less (ls' := [none, none, none, none]) (q_sb1 (q_sb1 (q_sb1 (q_sb1 q_sb0)))) ?_
        cases hf
        exact q_Jpad [] [] rfl rfl (hK1 rfl)
set_option maxHeartbeats 4000000 in
theorem ct_X15_isSame_492 {g : q_G} {t : Nat} {r : Nat} {ext : Nat → q_Sh} {rx : Nat → Nat → Option Nat} {L : Nat → Nat → Int64} {d : Nat} (hd : 1 ≤ d)  {I : Nat → Nat → Int32} {E : Nat → Nat → Option Nat} {x1 : Int32} {x2 : Int32} {r0 : Bool} (hf : f_X15_isSame (I 493) (I 495) (I 496) x1 x2 = some r0) : q_Ct g m_X15_isSame d 0 0 [] [.ref 492, .int x1, .int x2] (q_hp (t, r, 0, 529, 539, (q_pE ext), (q_pR rx), L) I E) (fun o h' => o = .inl (some (.int (q_bz r0))) ∧ h' = q_hp (t, r, 0, 529, 539, (q_pE ext), (q_pR rx), L) (q_ws I []) (q_ws E [])) := by
  rw [f_X15_isSame] at hf
  refine q_Ct_of ok_X15_isSame (Nat.le_of_ble_eq_true rfl) ?_ _ rfl rfl
  change q_J g m_X15_isSame d 0 0 _ [] _ 0 0 (q_kc (t, r, 0, 529, 539, (q_pE ext), (q_pR rx), L) I E 0 [some (.ref 492), some (.int x1), some (.int x2), none] [] [] [])
  obtain ⟨j8, hj8, hf⟩ := q_bd hf
  obtain ⟨j9, hj9, hf⟩ := q_bd hf
  refine q_blf 8 [j8, j9] (a := q_kc (t, r, 0, 529, 539, (q_pE ext), (q_pR rx), L) I E 11 [some (.ref 492), some (.int x1), some (.int x2), none] [] [] []) (b := q_kc (t, r, 0, 529, 539, (q_pE ext), (q_pR rx), L) I E 9 [some (.ref 492), some (.int x1), some (.int x2), none] [] [] []) (P := ((I 496) j8) = ((I 496) j9)) ok_X15_isSame rfl (q_cc hj9 (q_cc hj8 q_cn)) (fun h10 => ?_) (fun h10 => ?_)
  · have hf := q_ip h10 hf
    refine q_blk 2 [] (c' := q_kc (t, r, 0, 529, 539, (q_pE ext), (q_pR rx), L) I E 13 [some (.ref 492), some (.int x1), some (.int x2), some (.int (0 : Int32))] [] [] []) ok_X15_isSame rfl q_cn ?_
    obtain ⟨r11, hr11, hf⟩ := q_bd hf
    refine lp_X15_isSame_L13_492 (I := q_ws I []) (E := q_ws E []) hd (Nat.le_of_ble_eq_true rfl) (Nat.le_of_ble_eq_true rfl) 4096 hr11 ?_ ?_
    · intro hz0
      have hf := q_ip hz0 hf
      refine q_Jmrg (lI' := []) (lE' := []) rfl rfl ?_
      refine q_blk 1 [] (c' := q_kc (t, r, 0, 529, 539, (q_pE ext), (q_pR rx), L) I E 43 [none, none, none, none] [.int (1 : Int32)] [] []) ok_X15_isSame rfl q_cn ?_
      cases hf
      exact q_kri ok_X15_isSame rfl rfl rfl (Nat.le_of_ble_eq_true rfl) (Nat.le_of_ble_eq_true rfl) ⟨rfl, q_hpe (q_fin [] rfl) (q_fin [] rfl)⟩
    · intro hz1
      have hf := q_in (fun h9 => absurd (hz1.symm.trans h9) (by decide)) hf
      refine q_Jmrg (lI' := []) (lE' := []) rfl rfl ?_
      refine q_blk 1 [] (c' := q_kc (t, r, 0, 529, 539, (q_pE ext), (q_pR rx), L) I E 39 [none, none, none, none] [.int (0 : Int32)] [] []) ok_X15_isSame rfl q_cn ?_
      cases hf
      exact q_kri ok_X15_isSame rfl rfl rfl (Nat.le_of_ble_eq_true rfl) (Nat.le_of_ble_eq_true rfl) ⟨rfl, q_hpe (q_fin [] rfl) (q_fin [] rfl)⟩
  · have hf := q_in h10 hf
    refine q_blk 1 [] (c' := q_kc (t, r, 0, 529, 539, (q_pE ext), (q_pR rx), L) I E 10 [some (.ref 492), some (.int x1), some (.int x2), none] [.int (0 : Int32)] [] []) ok_X15_isSame rfl q_cn ?_
    cases hf
    exact q_kri ok_X15_isSame rfl rfl rfl (Nat.le_of_ble_eq_true rfl) (Nat.le_of_ble_eq_true rfl) ⟨rfl, q_hpe (q_fin [] rfl) (q_fin [] rfl)⟩
set_option maxHeartbeats 4000000 in
theorem lp_X15_told_L4_492 {g : q_G} {d mc ms : Nat} {h0 : q_H} {Q : (Option Value ⊕ String) → q_H → Prop} {k n : Nat} {t : Nat} {r : Nat} {ext : Nat → q_Sh} {rx : Nat → Nat → Option Nat} {L : Nat → Nat → Int64} (hd : 2 ≤ d) (hk : k ≤ mc) (hn : n ≤ ms)  {v1 : Int32} {v2 : Int32} : ∀ (fu : Nat) {I : Nat → Nat → Int32} {E : Nat → Nat → Option Nat} {v3 : Int32} {v4 : Int32} {r0 : Nat × Int32} (hf : f_X15_told_L4 (I 493) (I 495) (I 496) (I 497) v1 v2 fu v3 v4 = some r0) (hK0 : r0.1 = 0 → q_J g m_X15_told d mc ms h0 [] Q k n (q_kc (t, r, 0, 529, 539, (q_pE ext), (q_pR rx), L) I E 24 [none, none, none, none, none] [] [] [])) (hK1 : r0.1 = 1 → q_J g m_X15_told d mc ms h0 [] Q k n (q_kc (t, r, 0, 529, 539, (q_pE ext), (q_pR rx), L) I E 19 [none, none, none, some (.int r0.2), none] [] [] [])), q_J g m_X15_told d mc ms h0 [] Q k n (4, [some (.ref 492), some (.int v1), some (.int v2), some (.int v3), some (.int v4)], [], q_hp (t, r, 0, 529, 539, (q_pE ext), (q_pR rx), L) I E) := by
  intro fu
  induction fu with
  | zero =>
    intro I E v3 v4 r0 hf hK0 hK1
    rw [f_X15_told_L4] at hf
    cases hf
  | succ fu ih =>
    intro I E v3 v4 r0 hf hK0 hK1
    rw [f_X15_told_L4] at hf
    change q_J g m_X15_told d mc ms h0 [] Q k n (q_kc (t, r, 0, 529, 539, (q_pE ext), (q_pR rx), L) I E 4 [some (.ref 492), some (.int v1), some (.int v2), some (.int v3), some (.int v4)] [] [] [])
    refine q_blf 2 [] (a := q_kc (t, r, 0, 529, 539, (q_pE ext), (q_pR rx), L) I E 24 [some (.ref 492), some (.int v1), some (.int v2), some (.int v3), some (.int v4)] [] [] []) (b := q_kc (t, r, 0, 529, 539, (q_pE ext), (q_pR rx), L) I E 7 [some (.ref 492), some (.int v1), some (.int v2), some (.int v3), some (.int v4)] [] [] []) (P := v1 ≤ v4) ok_X15_told rfl q_cn (fun h1 => ?_) (fun h1 => ?_)
    · have hf := q_ip h1 hf
      refine q_less (ls' := [none, none, none, none, none]) (q_sb1 (q_sb1 (q_sb1 (q_sb1 (q_sb1 q_sb0))))) ?_
      cases hf
      exact q_Jpad [] [] rfl rfl (hK0 rfl)
    · have hf := q_in h1 hf
      obtain ⟨j2, hj2, hf⟩ := q_bd hf
      refine q_blf 5 [j2] (a := q_kc (t, r, 0, 529, 539, (q_pE ext), (q_pR rx), L) I E 14 [some (.ref 492), some (.int v1), some (.int v2), some (.int v3), some (.int v4)] [] [] []) (b := q_kc (t, r, 0, 529, 539, (q_pE ext), (q_pR rx), L) I E 13 [some (.ref 492), some (.int v1), some (.int v2), some (.int v3), some (.int v4)] [] [] []) (P := ((I 497) j2) = v2) ok_X15_told rfl (q_cc hj2 q_cn) (fun h3 => ?_) (fun h3 => ?_)
      · have hf := q_ip h3 hf
        refine q_blk 3 [] (c' := q_kc (t, r, 0, 529, 539, (q_pE ext), (q_pR rx), L) I E 17 [some (.ref 492), some (.int v1), some (.int v2), some (.int v3), some (.int v4)] [.int v1, .int v4, .ref 492] [] []) ok_X15_told rfl q_cn ?_
        obtain ⟨r4, hr4, hf⟩ := q_bd hf
        refine q_kV (M2 := m_X15_isSame) (As := [.int v4, .int v1]) (b := 492) (v2 := some (.int (q_bz r4))) ok_X15_told ok_X15_isSame cv_X15_isSame (ct_X15_isSame_492 (d := 1) (Nat.le_refl _) hr4) rfl rfl (Or.inl rfl) rfl rfl rfl rfl (Nat.le_trans (Nat.le_of_ble_eq_true rfl) hd) hk hn (Nat.le_of_ble_eq_true rfl) (fun x hx => absurd hx List.not_mem_nil) (q_nmL0 _) (q_nmS0 _) rfl (pos' := 18) (st' := [.int (q_bz r4)]) (lI' := []) (lE' := []) rfl rfl rfl rfl ?_
        refine q_blf 0 [] (a := q_kc (t, r, 0, 529, 539, (q_pE ext), (q_pR rx), L) I E 21 [some (.ref 492), some (.int v1), some (.int v2), some (.int v3), some (.int v4)] [] [] []) (b := q_kc (t, r, 0, 529, 539, (q_pE ext), (q_pR rx), L) I E 19 [some (.ref 492), some (.int v1), some (.int v2), some (.int v3), some (.int v4)] [] [] []) (P := (q_bz r4) = 0) ok_X15_told rfl q_cn (fun h5 => ?_) (fun h5 => ?_)
        · have hf := q_ip h5 hf
          refine q_blk 3 [] (c' := q_kc (t, r, 0, 529, 539, (q_pE ext), (q_pR rx), L) I E 4 [some (.ref 492), some (.int v1), some (.int v2), some (.int (v3 + 1)), some (.int (v4 + 1))] [] [] []) ok_X15_told rfl q_cn ?_
          exact ih (I := q_ws I []) (E := q_ws E []) hf (fun hz => q_Jmrg rfl rfl (hK0 hz)) (fun hz => q_Jmrg rfl rfl (hK1 hz))
        · have hf := q_in h5 hf
          refine q_less (ls' := [none, none, none, some (.int v3), none]) (q_sb1 (q_sb1 (q_sb1 (q_sb2 (q_sb1 q_sb0))))) ?_
          cases hf
          exact q_Jpad [] [] rfl rfl (hK1 rfl)
      · have hf := q_in h3 hf
        refine q_blk 3 [] (c' := q_kc (t, r, 0, 529, 539, (q_pE ext), (q_pR rx), L) I E 4 [some (.ref 492), some (.int v1), some (.int v2), some (.int v3), some (.int (v4 + 1))] [] [] []) ok_X15_told rfl q_cn ?_
        exact ih (I := q_ws I []) (E := q_ws E []) hf (fun hz => q_Jmrg rfl rfl (hK0 hz)) (fun hz => q_Jmrg rfl rfl (hK1 hz))
set_option maxHeartbeats 4000000 in
theorem ct_X15_told_492 {g : q_G} {t : Nat} {r : Nat} {ext : Nat → q_Sh} {rx : Nat → Nat → Option Nat} {L : Nat → Nat → Int64} {d : Nat} (hd : 2 ≤ d)  {I : Nat → Nat → Int32} {E : Nat → Nat → Option Nat} {x1 : Int32} {x2 : Int32} {r0 : Int32} (hf : f_X15_told (I 493) (I 495) (I 496) (I 497) x1 x2 = some r0) : q_Ct g m_X15_told d 0 0 [] [.ref 492, .int x1, .int x2] (q_hp (t, r, 0, 529, 539, (q_pE ext), (q_pR rx), L) I E) (fun o h' => o = .inl (some (.int r0)) ∧ h' = q_hp (t, r, 0, 529, 539, (q_pE ext), (q_pR rx), L) (q_ws I []) (q_ws E [])) := by
  rw [f_X15_told] at hf
  refine q_Ct_of ok_X15_told (Nat.le_of_ble_eq_true rfl) ?_ _ rfl rfl
  change q_J g m_X15_told d 0 0 _ [] _ 0 0 (q_kc (t, r, 0, 529, 539, (q_pE ext), (q_pR rx), L) I E 0 [some (.ref 492), some (.int x1), some (.int x2), none, none] [] [] [])
  refine q_blk 4 [] (c' := q_kc (t, r, 0, 529, 539, (q_pE ext), (q_pR rx), L) I E 4 [some (.ref 492), some (.int x1), some (.int x2), some (.int (0 : Int32)), some (.int (0 : Int32))] [] [] []) ok_X15_told rfl q_cn ?_
  obtain ⟨r6, hr6, hf⟩ := q_bd hf
  refine lp_X15_told_L4_492 (I := q_ws I []) (E := q_ws E []) hd (Nat.le_of_ble_eq_true rfl) (Nat.le_of_ble_eq_true rfl) 4096 hr6 ?_ ?_
  · intro hz0
    have hf := q_ip hz0 hf
    refine q_Jmrg (lI' := []) (lE' := []) rfl rfl ?_
    refine q_blk 1 [] (c' := q_kc (t, r, 0, 529, 539, (q_pE ext), (q_pR rx), L) I E 25 [none, none, none, none, none] [.int (-1 : Int32)] [] []) ok_X15_told rfl q_cn ?_
    cases hf
    exact q_kri ok_X15_told rfl rfl rfl (Nat.le_of_ble_eq_true rfl) (Nat.le_of_ble_eq_true rfl) ⟨rfl, q_hpe (q_fin [] rfl) (q_fin [] rfl)⟩
  · intro hz1
    have hf := q_in (fun h9 => absurd (hz1.symm.trans h9) (by decide)) hf
    refine q_Jmrg (lI' := []) (lE' := []) rfl rfl ?_
    refine q_blk 1 [] (c' := q_kc (t, r, 0, 529, 539, (q_pE ext), (q_pR rx), L) I E 20 [none, none, none, some (.int r6.2), none] [.int r6.2] [] []) ok_X15_told rfl q_cn ?_
    cases hf
    exact q_kri ok_X15_told rfl rfl rfl (Nat.le_of_ble_eq_true rfl) (Nat.le_of_ble_eq_true rfl) ⟨rfl, q_hpe (q_fin [] rfl) (q_fin [] rfl)⟩
set_option maxHeartbeats 4000000 in
theorem ct_X15_isNew_492 {g : q_G} {t : Nat} {r : Nat} {ext : Nat → q_Sh} {rx : Nat → Nat → Option Nat} {L : Nat → Nat → Int64} {d : Nat} (hd : 3 ≤ d)  {I : Nat → Nat → Int32} {E : Nat → Nat → Option Nat} {x1 : Int32} {x2 : Int32} {x3 : Int32} {r0 : Int32} (hf : f_X15_isNew (I 493) (I 495) (I 496) (I 497) x1 x2 x3 = some r0) : q_Ct g m_X15_isNew d 0 0 [] [.ref 492, .int x1, .int x2, .int x3] (q_hp (t, r, 0, 529, 539, (q_pE ext), (q_pR rx), L) I E) (fun o h' => o = .inl (some (.int r0)) ∧ h' = q_hp (t, r, 0, 529, 539, (q_pE ext), (q_pR rx), L) (q_ws I []) (q_ws E [])) := by
  rw [f_X15_isNew] at hf
  refine q_Ct_of ok_X15_isNew (Nat.le_of_ble_eq_true rfl) ?_ _ rfl rfl
  change q_J g m_X15_isNew d 0 0 _ [] _ 0 0 (q_kc (t, r, 0, 529, 539, (q_pE ext), (q_pR rx), L) I E 0 [some (.ref 492), some (.int x1), some (.int x2), some (.int x3)] [] [] [])
  obtain ⟨j1, hj1, hf⟩ := q_bd hf
  refine q_blk 6 [j1] (c' := q_kc (t, r, 0, 529, 539, (q_pE ext), (q_pR rx), L) I E 6 [some (.ref 492), some (.int x1), some (.int x2), some (.int x3)] [.int ((I 497) j1), .int x1, .ref 492] [] []) ok_X15_isNew rfl (q_cc hj1 q_cn) ?_
  obtain ⟨r2, hr2, hf⟩ := q_bd hf
  refine q_kV (M2 := m_X15_told) (As := [.int x1, .int ((I 497) j1)]) (b := 492) (v2 := some (.int r2)) ok_X15_isNew ok_X15_told cv_X15_told (ct_X15_told_492 (d := 2) (Nat.le_refl _) hr2) rfl rfl (Or.inl rfl) rfl rfl rfl rfl (Nat.le_trans (Nat.le_of_ble_eq_true rfl) hd) (Nat.le_of_ble_eq_true rfl) (Nat.le_of_ble_eq_true rfl) (Nat.le_of_ble_eq_true rfl) (fun x hx => absurd hx List.not_mem_nil) (q_nmL0 _) (q_nmS0 _) rfl (pos' := 7) (st' := [.int r2]) (lI' := []) (lE' := []) rfl rfl rfl rfl ?_
  refine q_blf 1 [] (a := q_kc (t, r, 0, 529, 539, (q_pE ext), (q_pR rx), L) I E 11 [some (.ref 492), some (.int x1), some (.int x2), some (.int x3)] [] [] []) (b := q_kc (t, r, 0, 529, 539, (q_pE ext), (q_pR rx), L) I E 9 [some (.ref 492), some (.int x1), some (.int x2), some (.int x3)] [] [] []) (P := r2 = (-1 : Int32)) ok_X15_isNew rfl q_cn (fun h3 => ?_) (fun h3 => ?_)
  · have hf := q_ip h3 hf
    refine q_blf 2 [] (a := q_kc (t, r, 0, 529, 539, (q_pE ext), (q_pR rx), L) I E 16 [some (.ref 492), some (.int x1), some (.int x2), some (.int x3)] [] [] []) (b := q_kc (t, r, 0, 529, 539, (q_pE ext), (q_pR rx), L) I E 14 [some (.ref 492), some (.int x1), some (.int x2), some (.int x3)] [] [] []) (P := ¬ x2 = x3) ok_X15_isNew rfl q_cn (fun h4 => ?_) (fun h4 => ?_)
    · have hf := q_ip h4 hf
      refine q_blk 1 [] (c' := q_kc (t, r, 0, 529, 539, (q_pE ext), (q_pR rx), L) I E 17 [some (.ref 492), some (.int x1), some (.int x2), some (.int x3)] [.int (0 : Int32)] [] []) ok_X15_isNew rfl q_cn ?_
      cases hf
      exact q_kri ok_X15_isNew rfl rfl rfl (Nat.le_of_ble_eq_true rfl) (Nat.le_of_ble_eq_true rfl) ⟨rfl, q_hpe (q_fin [] rfl) (q_fin [] rfl)⟩
    · have hf := q_in h4 hf
      refine q_blk 2 [] (c' := q_kc (t, r, 0, 529, 539, (q_pE ext), (q_pR rx), L) I E 17 [some (.ref 492), some (.int x1), some (.int x2), some (.int x3)] [.int (4 : Int32)] [] []) ok_X15_isNew rfl q_cn ?_
      cases hf
      exact q_kri ok_X15_isNew rfl rfl rfl (Nat.le_of_ble_eq_true rfl) (Nat.le_of_ble_eq_true rfl) ⟨rfl, q_hpe (q_fin [] rfl) (q_fin [] rfl)⟩
  · have hf := q_in h3 hf
    refine q_blk 2 [] (c' := q_kc (t, r, 0, 529, 539, (q_pE ext), (q_pR rx), L) I E 17 [some (.ref 492), some (.int x1), some (.int x2), some (.int x3)] [.int (2 : Int32)] [] []) ok_X15_isNew rfl q_cn ?_
    cases hf
    exact q_kri ok_X15_isNew rfl rfl rfl (Nat.le_of_ble_eq_true rfl) (Nat.le_of_ble_eq_true rfl) ⟨rfl, q_hpe (q_fin [] rfl) (q_fin [] rfl)⟩
set_option maxHeartbeats 4000000 in
theorem ct_X15_newHook_492 {g : q_G} {t : Nat} {r : Nat} {ext : Nat → q_Sh} {rx : Nat → Nat → Option Nat} {L : Nat → Nat → Int64} {d : Nat} (hd : 4 ≤ d)  {I : Nat → Nat → Int32} {E : Nat → Nat → Option Nat} {x1 : Int32} {r0 : Int32 × (Nat → Int32)} (hf : f_X15_newHook (I 493) (I 495) (I 496) (I 497) (I 529) x1 = some r0) : q_Ct g m_X15_newHook d 0 0 [] [.ref 492, .int x1] (q_hp (t, r, 0, 529, 539, (q_pE ext), (q_pR rx), L) I E) (fun o h' => o = .inl (some (.int r0.1)) ∧ h' = q_hp (t, r, 0, 529, 539, (q_pE ext), (q_pR rx), L) (q_ws I [(529, r0.2)]) (q_ws E [])) := by
  rw [f_X15_newHook] at hf
  refine q_Ct_of ok_X15_newHook (Nat.le_of_ble_eq_true rfl) ?_ _ rfl rfl
  change q_J g m_X15_newHook d 0 0 _ [] _ 0 0 (q_kc (t, r, 0, 529, 539, (q_pE ext), (q_pR rx), L) I E 0 [some (.ref 492), some (.int x1), none] [] [] [])
  refine q_blk 6 [] (c' := q_kc (t, r, 0, 529, 539, (q_pE ext), (q_pR rx), L) I E 6 [some (.ref 492), some (.int x1), none] [.int (6 : Int32), .int ((I 529) 0), .int x1, .ref 492] [] []) ok_X15_newHook rfl q_cn ?_
  obtain ⟨r1, hr1, hf⟩ := q_bd hf
  refine q_kV (M2 := m_X15_isNew) (As := [.int x1, .int ((I 529) 0), .int (6 : Int32)]) (b := 492) (v2 := some (.int r1)) ok_X15_newHook ok_X15_isNew cv_X15_isNew (ct_X15_isNew_492 (d := 3) (Nat.le_refl _) hr1) rfl rfl (Or.inl rfl) rfl rfl rfl rfl (Nat.le_trans (Nat.le_of_ble_eq_true rfl) hd) (Nat.le_of_ble_eq_true rfl) (Nat.le_of_ble_eq_true rfl) (Nat.le_of_ble_eq_true rfl) (fun x hx => absurd hx List.not_mem_nil) (q_nmL0 _) (q_nmS0 _) rfl (pos' := 7) (st' := [.int r1]) (lI' := []) (lE' := []) rfl rfl rfl rfl ?_
  refine q_blf 6 [] (a := q_kc (t, r, 0, 529, 539, (q_pE ext), (q_pR rx), L) I E 16 [some (.ref 492), some (.int x1), some (.int r1)] [.int ((I 529) 0), .ref 529] [] []) (b := q_kc (t, r, 0, 529, 539, (q_pE ext), (q_pR rx), L) I E 14 [some (.ref 492), some (.int x1), some (.int r1)] [.int ((I 529) 0), .ref 529] [] []) (P := ¬ r1 = 0) ok_X15_newHook rfl q_cn (fun h2 => ?_) (fun h2 => ?_)
  · have hf := q_ip h2 hf
    refine q_blk 4 [] (c' := q_kc (t, r, 0, 529, 539, (q_pE ext), (q_pR rx), L) I E 20 [some (.ref 492), some (.int x1), some (.int r1)] [.int r1] [(529, (q_up (I 529) 0 (((I 529) 0) + (0 : Int32))))] []) ok_X15_newHook rfl q_cn ?_
    cases hf
    exact q_kri ok_X15_newHook rfl rfl rfl (Nat.le_of_ble_eq_true rfl) (Nat.le_of_ble_eq_true rfl) ⟨rfl, q_hpe (q_fin [529] rfl) (q_fin [] rfl)⟩
  · have hf := q_in h2 hf
    refine q_blk 5 [] (c' := q_kc (t, r, 0, 529, 539, (q_pE ext), (q_pR rx), L) I E 20 [some (.ref 492), some (.int x1), some (.int r1)] [.int r1] [(529, (q_up (I 529) 0 (((I 529) 0) + (1 : Int32))))] []) ok_X15_newHook rfl q_cn ?_
    cases hf
    exact q_kri ok_X15_newHook rfl rfl rfl (Nat.le_of_ble_eq_true rfl) (Nat.le_of_ble_eq_true rfl) ⟨rfl, q_hpe (q_fin [529] rfl) (q_fin [] rfl)⟩
set_option maxHeartbeats 4000000 in
theorem ct_X15_newStep_492 {g : q_G} {t : Nat} {r : Nat} {ext : Nat → q_Sh} {rx : Nat → Nat → Option Nat} {L : Nat → Nat → Int64} {d : Nat} (hd : 1 ≤ d)  {I : Nat → Nat → Int32} {E : Nat → Nat → Option Nat} {x1 : Int32} {r0 : Int32 × (Nat → Int32) × (Nat → Int32)} (hf : f_X15_newStep (I 529) (I 530) x1 = some r0) : q_Ct g m_X15_newStep d 0 0 [] [.ref 492, .int x1] (q_hp (t, r, 0, 529, 539, (q_pE ext), (q_pR rx), L) I E) (fun o h' => o = .inl (some (.int r0.1)) ∧ h' = q_hp (t, r, 0, 529, 539, (q_pE ext), (q_pR rx), L) (q_ws I [(529, r0.2.1), (530, r0.2.2)]) (q_ws E [])) := by
  rw [f_X15_newStep] at hf
  refine q_Ct_of ok_X15_newStep (Nat.le_of_ble_eq_true rfl) ?_ _ rfl rfl
  change q_J g m_X15_newStep d 0 0 _ [] _ 0 0 (q_kc (t, r, 0, 529, 539, (q_pE ext), (q_pR rx), L) I E 0 [some (.ref 492), some (.int x1)] [] [] [])
  refine q_blf 4 [] (a := q_kc (t, r, 0, 529, 539, (q_pE ext), (q_pR rx), L) I E 7 [some (.ref 492), some (.int x1)] [] [] []) (b := q_kc (t, r, 0, 529, 539, (q_pE ext), (q_pR rx), L) I E 5 [some (.ref 492), some (.int x1)] [] [] []) (P := ¬ ((I 529) 4) = (20 : Int32)) ok_X15_newStep rfl q_cn (fun h1 => ?_) (fun h1 => ?_)
  · have hf := q_ip h1 hf
    obtain ⟨j2, hj2, hf⟩ := q_bd hf
    refine q_blk 16 [j2] (c' := q_kc (t, r, 0, 529, 539, (q_pE ext), (q_pR rx), L) I E 23 [some (.ref 492), some (.int x1)] [.int (0 : Int32)] [(529, (q_up (I 529) 4 (((I 529) 4) + (1 : Int32)))), (530, (q_up (I 530) j2 x1))] []) ok_X15_newStep rfl (q_cc hj2 q_cn) ?_
    cases hf
    exact q_kri ok_X15_newStep rfl rfl rfl (Nat.le_of_ble_eq_true rfl) (Nat.le_of_ble_eq_true rfl) ⟨rfl, q_hpe (q_fin [529, 530] rfl) (q_fin [] rfl)⟩
  · have hf := q_in h1 hf
    refine q_blk 1 [] (c' := q_kc (t, r, 0, 529, 539, (q_pE ext), (q_pR rx), L) I E 6 [some (.ref 492), some (.int x1)] [.int (4 : Int32)] [] []) ok_X15_newStep rfl q_cn ?_
    cases hf
    exact q_kri ok_X15_newStep rfl rfl rfl (Nat.le_of_ble_eq_true rfl) (Nat.le_of_ble_eq_true rfl) ⟨rfl, q_hpe (q_fin [529, 530] rfl) (q_fin [] rfl)⟩
set_option maxHeartbeats 4000000 in
theorem ct_X15_look_492 {g : q_G} {t : Nat} {r : Nat} {ext : Nat → q_Sh} {rx : Nat → Nat → Option Nat} {L : Nat → Nat → Int64} {d : Nat} (hd : 3 ≤ d)  {I : Nat → Nat → Int32} {E : Nat → Nat → Option Nat} {x1 : Int32} {x2 : Int32} {r0 : Int32 × (Nat → Int32)} (hf : f_X15_look (I 493) (I 495) (I 496) (I 497) (I 498) x1 x2 = some r0) : q_Ct g m_X15_look d 0 0 [] [.ref 492, .int x1, .int x2] (q_hp (t, r, 0, 529, 539, (q_pE ext), (q_pR rx), L) I E) (fun o h' => o = .inl (some (.int r0.1)) ∧ h' = q_hp (t, r, 0, 529, 539, (q_pE ext), (q_pR rx), L) (q_ws I [(498, r0.2)]) (q_ws E [])) := by
  rw [f_X15_look] at hf
  refine q_Ct_of ok_X15_look (Nat.le_of_ble_eq_true rfl) ?_ _ rfl rfl
  change q_J g m_X15_look d 0 0 _ [] _ 0 0 (q_kc (t, r, 0, 529, 539, (q_pE ext), (q_pR rx), L) I E 0 [some (.ref 492), some (.int x1), some (.int x2)] [] [] [])
  refine q_blk 6 [] (c' := q_kc (t, r, 0, 529, 539, (q_pE ext), (q_pR rx), L) I E 6 [some (.ref 492), some (.int x1), some (.int x2)] [.int x2, .int x1, .ref 492, .int x1, .ref 498] [] []) ok_X15_look rfl q_cn ?_
  obtain ⟨r1, hr1, hf⟩ := q_bd hf
  refine q_kV (M2 := m_X15_told) (As := [.int x1, .int x2]) (b := 492) (v2 := some (.int r1)) ok_X15_look ok_X15_told cv_X15_told (ct_X15_told_492 (d := 2) (Nat.le_refl _) hr1) rfl rfl (Or.inl rfl) rfl rfl rfl rfl (Nat.le_trans (Nat.le_of_ble_eq_true rfl) hd) (Nat.le_of_ble_eq_true rfl) (Nat.le_of_ble_eq_true rfl) (Nat.le_of_ble_eq_true rfl) (fun x hx => absurd hx List.not_mem_nil) (q_nmL0 _) (q_nmS0 _) rfl (pos' := 7) (st' := [.int r1, .int x1, .ref 498]) (lI' := []) (lE' := []) rfl rfl rfl rfl ?_
  obtain ⟨j2, hj2, hf⟩ := q_bd hf
  obtain ⟨j3, hj3, hf⟩ := q_bd hf
  refine q_blf 6 [j2, j3] (a := q_kc (t, r, 0, 529, 539, (q_pE ext), (q_pR rx), L) I E 16 [some (.ref 492), some (.int x1), some (.int x2)] [] [(498, (q_up (I 498) j2 r1))] []) (b := q_kc (t, r, 0, 529, 539, (q_pE ext), (q_pR rx), L) I E 14 [some (.ref 492), some (.int x1), some (.int x2)] [] [(498, (q_up (I 498) j2 r1))] []) (P := ¬ ((q_up (I 498) j2 r1) j3) = (-1 : Int32)) ok_X15_look rfl (q_cc hj3 (q_cc hj2 q_cn)) (fun h4 => ?_) (fun h4 => ?_)
  · have hf := q_ip h4 hf
    refine q_blk 1 [] (c' := q_kc (t, r, 0, 529, 539, (q_pE ext), (q_pR rx), L) I E 17 [some (.ref 492), some (.int x1), some (.int x2)] [.int (0 : Int32)] [(498, (q_up (I 498) j2 r1))] []) ok_X15_look rfl q_cn ?_
    cases hf
    exact q_kri ok_X15_look rfl rfl rfl (Nat.le_of_ble_eq_true rfl) (Nat.le_of_ble_eq_true rfl) ⟨rfl, q_hpe (q_fin [498] rfl) (q_fin [] rfl)⟩
  · have hf := q_in h4 hf
    refine q_blk 2 [] (c' := q_kc (t, r, 0, 529, 539, (q_pE ext), (q_pR rx), L) I E 17 [some (.ref 492), some (.int x1), some (.int x2)] [.int (3 : Int32)] [(498, (q_up (I 498) j2 r1))] []) ok_X15_look rfl q_cn ?_
    cases hf
    exact q_kri ok_X15_look rfl rfl rfl (Nat.le_of_ble_eq_true rfl) (Nat.le_of_ble_eq_true rfl) ⟨rfl, q_hpe (q_fin [498] rfl) (q_fin [] rfl)⟩
set_option maxHeartbeats 4000000 in
theorem ct_X15_ofStep_492 {g : q_G} {t : Nat} {r : Nat} {ext : Nat → q_Sh} {rx : Nat → Nat → Option Nat} {L : Nat → Nat → Int64} {d : Nat} (hd : 4 ≤ d)  {I : Nat → Nat → Int32} {E : Nat → Nat → Option Nat} {x1 : Int32} {r0 : Int32 × (Nat → Int32) × (Nat → Int32) × (Nat → Int32)} (hf : f_X15_ofStep (I 493) (I 495) (I 496) (I 497) (I 498) (I 529) (I 531) (I 532) x1 = some r0) : q_Ct g m_X15_ofStep d 0 0 [] [.ref 492, .int x1] (q_hp (t, r, 0, 529, 539, (q_pE ext), (q_pR rx), L) I E) (fun o h' => o = .inl (some (.int r0.1)) ∧ h' = q_hp (t, r, 0, 529, 539, (q_pE ext), (q_pR rx), L) (q_ws I [(498, r0.2.1), (531, r0.2.2.1), (532, r0.2.2.2)]) (q_ws E [])) := by
  rw [f_X15_ofStep] at hf
  refine q_Ct_of ok_X15_ofStep (Nat.le_of_ble_eq_true rfl) ?_ _ rfl rfl
  change q_J g m_X15_ofStep d 0 0 _ [] _ 0 0 (q_kc (t, r, 0, 529, 539, (q_pE ext), (q_pR rx), L) I E 0 [some (.ref 492), some (.int x1), none] [] [] [])
  refine q_blk 3 [] (c' := q_kc (t, r, 0, 529, 539, (q_pE ext), (q_pR rx), L) I E 3 [some (.ref 492), some (.int x1), none] [.int (1 : Int32), .int x1, .ref 492] [] []) ok_X15_ofStep rfl q_cn ?_
  obtain ⟨r1, hr1, hf⟩ := q_bd hf
  refine q_kV (M2 := m_X15_look) (As := [.int x1, .int (1 : Int32)]) (b := 492) (v2 := some (.int r1.1)) ok_X15_ofStep ok_X15_look cv_X15_look (ct_X15_look_492 (d := 3) (Nat.le_refl _) hr1) rfl rfl (Or.inl rfl) rfl rfl rfl rfl (Nat.le_trans (Nat.le_of_ble_eq_true rfl) hd) (Nat.le_of_ble_eq_true rfl) (Nat.le_of_ble_eq_true rfl) (Nat.le_of_ble_eq_true rfl) (fun x hx => absurd hx List.not_mem_nil) (q_nmL0 _) (q_nmS0 _) rfl (pos' := 4) (st' := [.int r1.1]) (lI' := [(498, r1.2)]) (lE' := []) rfl rfl rfl rfl ?_
  obtain ⟨j2, hj2, hf⟩ := q_bd hf
  refine q_blf 6 [j2] (a := q_kc (t, r, 0, 529, 539, (q_pE ext), (q_pR rx), L) I E 25 [some (.ref 492), some (.int x1), some (.int r1.1)] [] [(498, r1.2)] []) (b := q_kc (t, r, 0, 529, 539, (q_pE ext), (q_pR rx), L) I E 11 [some (.ref 492), some (.int x1), some (.int r1.1)] [] [(498, r1.2)] []) (P := ¬ ((I 497) j2) = (3 : Int32)) ok_X15_ofStep rfl (q_cc hj2 q_cn) (fun h3 => ?_) (fun h3 => ?_)
  · have hf := q_ip h3 hf
    obtain ⟨j4, hj4, hf⟩ := q_bd hf
    obtain ⟨j5, hj5, hf⟩ := q_bd hf
    refine q_blk 14 [j4, j5] (c' := q_kc (t, r, 0, 529, 539, (q_pE ext), (q_pR rx), L) I E 39 [some (.ref 492), some (.int x1), some (.int r1.1)] [.int r1.1] [(498, r1.2), (532, (q_up (I 532) j5 (r1.2 j4)))] []) ok_X15_ofStep rfl (q_cc hj5 (q_cc hj4 q_cn)) ?_
    cases hf
    exact q_kri ok_X15_ofStep rfl rfl rfl (Nat.le_of_ble_eq_true rfl) (Nat.le_of_ble_eq_true rfl) ⟨rfl, q_hpe (q_fin [498, 531, 532] rfl) (q_fin [] rfl)⟩
  · have hf := q_in h3 hf
    obtain ⟨j6, hj6, hf⟩ := q_bd hf
    obtain ⟨j7, hj7, hf⟩ := q_bd hf
    refine q_blk 15 [j6, j7] (c' := q_kc (t, r, 0, 529, 539, (q_pE ext), (q_pR rx), L) I E 39 [some (.ref 492), some (.int x1), some (.int r1.1)] [.int r1.1] [(498, r1.2), (531, (q_up (I 531) j7 (r1.2 j6)))] []) ok_X15_ofStep rfl (q_cc hj7 (q_cc hj6 q_cn)) ?_
    cases hf
    exact q_kri ok_X15_ofStep rfl rfl rfl (Nat.le_of_ble_eq_true rfl) (Nat.le_of_ble_eq_true rfl) ⟨rfl, q_hpe (q_fin [498, 531, 532] rfl) (q_fin [] rfl)⟩
set_option maxHeartbeats 4000000 in
theorem ct_X15_isIn {g : q_G} {t : Nat} {r : Nat} {ext : Nat → q_Sh} {rx : Nat → Nat → Option Nat} {L : Nat → Nat → Int64} {d : Nat} (hd : 1 ≤ d)  {I : Nat → Nat → Int32} {E : Nat → Nat → Option Nat} {x0 : Int32} {x1 : Int32} {x2 : Int32} {r0 : Bool} (hf : f_X15_isIn x0 x1 x2 = some r0) : q_Ct g m_X15_isIn d 0 0 [] [.int x0, .int x1, .int x2] (q_hp (t, r, 0, 529, 539, (q_pE ext), (q_pR rx), L) I E) (fun o h' => o = .inl (some (.int (q_bz r0))) ∧ h' = q_hp (t, r, 0, 529, 539, (q_pE ext), (q_pR rx), L) (q_ws I []) (q_ws E [])) := by
  rw [f_X15_isIn] at hf
  refine q_Ct_of ok_X15_isIn (Nat.le_of_ble_eq_true rfl) ?_ _ rfl rfl
  change q_J g m_X15_isIn d 0 0 _ [] _ 0 0 (q_kc (t, r, 0, 529, 539, (q_pE ext), (q_pR rx), L) I E 0 [some (.int x0), some (.int x1), some (.int x2)] [] [] [])
  refine q_blf 2 [] (a := q_kc (t, r, 0, 529, 539, (q_pE ext), (q_pR rx), L) I E 8 [some (.int x0), some (.int x1), some (.int x2)] [] [] []) (b := q_kc (t, r, 0, 529, 539, (q_pE ext), (q_pR rx), L) I E 3 [some (.int x0), some (.int x1), some (.int x2)] [] [] []) (P := x0 < x1) ok_X15_isIn rfl q_cn (fun h1 => ?_) (fun h1 => ?_)
  · have hf := q_ip h1 hf
    refine q_blk 1 [] (c' := q_kc (t, r, 0, 529, 539, (q_pE ext), (q_pR rx), L) I E 9 [some (.int x0), some (.int x1), some (.int x2)] [.int (0 : Int32)] [] []) ok_X15_isIn rfl q_cn ?_
    cases hf
    exact q_kri ok_X15_isIn rfl rfl rfl (Nat.le_of_ble_eq_true rfl) (Nat.le_of_ble_eq_true rfl) ⟨rfl, q_hpe (q_fin [] rfl) (q_fin [] rfl)⟩
  · have hf := q_in h1 hf
    refine q_blf 2 [] (a := q_kc (t, r, 0, 529, 539, (q_pE ext), (q_pR rx), L) I E 8 [some (.int x0), some (.int x1), some (.int x2)] [] [] []) (b := q_kc (t, r, 0, 529, 539, (q_pE ext), (q_pR rx), L) I E 6 [some (.int x0), some (.int x1), some (.int x2)] [] [] []) (P := x2 < x0) ok_X15_isIn rfl q_cn (fun h2 => ?_) (fun h2 => ?_)
    · have hf := q_ip h2 hf
      refine q_blk 1 [] (c' := q_kc (t, r, 0, 529, 539, (q_pE ext), (q_pR rx), L) I E 9 [some (.int x0), some (.int x1), some (.int x2)] [.int (0 : Int32)] [] []) ok_X15_isIn rfl q_cn ?_
      cases hf
      exact q_kri ok_X15_isIn rfl rfl rfl (Nat.le_of_ble_eq_true rfl) (Nat.le_of_ble_eq_true rfl) ⟨rfl, q_hpe (q_fin [] rfl) (q_fin [] rfl)⟩
    · have hf := q_in h2 hf
      refine q_blk 2 [] (c' := q_kc (t, r, 0, 529, 539, (q_pE ext), (q_pR rx), L) I E 9 [some (.int x0), some (.int x1), some (.int x2)] [.int (1 : Int32)] [] []) ok_X15_isIn rfl q_cn ?_
      cases hf
      exact q_kri ok_X15_isIn rfl rfl rfl (Nat.le_of_ble_eq_true rfl) (Nat.le_of_ble_eq_true rfl) ⟨rfl, q_hpe (q_fin [] rfl) (q_fin [] rfl)⟩
set_option maxHeartbeats 4000000 in
theorem ct_X15_inRange_492 {g : q_G} {t : Nat} {r : Nat} {ext : Nat → q_Sh} {rx : Nat → Nat → Option Nat} {L : Nat → Nat → Int64} {d : Nat} (hd : 2 ≤ d)  {I : Nat → Nat → Int32} {E : Nat → Nat → Option Nat} {x1 : Int32} {x2 : Int32} {x3 : Int32} {r0 : Int32} (hf : f_X15_inRange (I 493) (I 495) (I 496) x1 x2 x3 = some r0) : q_Ct g m_X15_inRange d 0 0 [] [.ref 492, .int x1, .int x2, .int x3] (q_hp (t, r, 0, 529, 539, (q_pE ext), (q_pR rx), L) I E) (fun o h' => o = .inl (some (.int r0)) ∧ h' = q_hp (t, r, 0, 529, 539, (q_pE ext), (q_pR rx), L) (q_ws I []) (q_ws E [])) := by
  rw [f_X15_inRange] at hf
  refine q_Ct_of ok_X15_inRange (Nat.le_of_ble_eq_true rfl) ?_ _ rfl rfl
  change q_J g m_X15_inRange d 0 0 _ [] _ 0 0 (q_kc (t, r, 0, 529, 539, (q_pE ext), (q_pR rx), L) I E 0 [some (.ref 492), some (.int x1), some (.int x2), some (.int x3)] [] [] [])
  refine q_blk 2 [] (c' := q_kc (t, r, 0, 529, 539, (q_pE ext), (q_pR rx), L) I E 2 [some (.ref 492), some (.int x1), some (.int x2), some (.int x3)] [.int x1, .ref 492] [] []) ok_X15_inRange rfl q_cn ?_
  obtain ⟨r1, hr1, hf⟩ := q_bd hf
  refine q_kV (M2 := m_X15_numberAt) (As := [.int x1]) (b := 492) (v2 := some (.int r1)) ok_X15_inRange ok_X15_numberAt cv_X15_numberAt (ct_X15_numberAt_492 (d := 1) (Nat.le_refl _) hr1) rfl rfl (Or.inl rfl) rfl rfl rfl rfl (Nat.le_trans (Nat.le_of_ble_eq_true rfl) hd) (Nat.le_of_ble_eq_true rfl) (Nat.le_of_ble_eq_true rfl) (Nat.le_of_ble_eq_true rfl) (fun x hx => absurd hx List.not_mem_nil) (q_nmL0 _) (q_nmS0 _) rfl (pos' := 3) (st' := [.int r1]) (lI' := []) (lE' := []) rfl rfl rfl rfl ?_
  refine q_blk 2 [] (c' := q_kc (t, r, 0, 529, 539, (q_pE ext), (q_pR rx), L) I E 5 [some (.ref 492), some (.int x1), some (.int x2), some (.int x3)] [.int x3, .int x2, .int r1] [] []) ok_X15_inRange rfl q_cn ?_
  obtain ⟨r2, hr2, hf⟩ := q_bd hf
  refine q_kS (M2 := m_X15_isIn) (As := [.int r1, .int x2, .int x3]) (v2 := some (.int (q_bz r2))) ok_X15_inRange ok_X15_isIn cs_X15_isIn (ct_X15_isIn (d := 1) (Nat.le_refl _) hr2) rfl rfl (Or.inl rfl) (Nat.le_trans (Nat.le_of_ble_eq_true rfl) hd) (Nat.le_of_ble_eq_true rfl) (Nat.le_of_ble_eq_true rfl) (Nat.le_of_ble_eq_true rfl) (fun x hx => absurd hx List.not_mem_nil) (q_nmL0 _) (q_nmS0 _) rfl (pos' := 6) (st' := [.int (q_bz r2)]) (lI' := []) (lE' := []) rfl rfl rfl rfl ?_
  refine q_blf 0 [] (a := q_kc (t, r, 0, 529, 539, (q_pE ext), (q_pR rx), L) I E 9 [some (.ref 492), some (.int x1), some (.int x2), some (.int x3)] [] [] []) (b := q_kc (t, r, 0, 529, 539, (q_pE ext), (q_pR rx), L) I E 7 [some (.ref 492), some (.int x1), some (.int x2), some (.int x3)] [] [] []) (P := (q_bz r2) = 0) ok_X15_inRange rfl q_cn (fun h3 => ?_) (fun h3 => ?_)
  · have hf := q_ip h3 hf
    refine q_blk 1 [] (c' := q_kc (t, r, 0, 529, 539, (q_pE ext), (q_pR rx), L) I E 10 [some (.ref 492), some (.int x1), some (.int x2), some (.int x3)] [.int (5 : Int32)] [] []) ok_X15_inRange rfl q_cn ?_
    cases hf
    exact q_kri ok_X15_inRange rfl rfl rfl (Nat.le_of_ble_eq_true rfl) (Nat.le_of_ble_eq_true rfl) ⟨rfl, q_hpe (q_fin [] rfl) (q_fin [] rfl)⟩
  · have hf := q_in h3 hf
    refine q_blk 2 [] (c' := q_kc (t, r, 0, 529, 539, (q_pE ext), (q_pR rx), L) I E 10 [some (.ref 492), some (.int x1), some (.int x2), some (.int x3)] [.int (0 : Int32)] [] []) ok_X15_inRange rfl q_cn ?_
    cases hf
    exact q_kri ok_X15_inRange rfl rfl rfl (Nat.le_of_ble_eq_true rfl) (Nat.le_of_ble_eq_true rfl) ⟨rfl, q_hpe (q_fin [] rfl) (q_fin [] rfl)⟩
set_option maxHeartbeats 4000000 in
theorem ct_X15_number_492 {g : q_G} {t : Nat} {r : Nat} {ext : Nat → q_Sh} {rx : Nat → Nat → Option Nat} {L : Nat → Nat → Int64} {d : Nat} (hd : 3 ≤ d)  {I : Nat → Nat → Int32} {E : Nat → Nat → Option Nat} {x1 : Int32} {r0 : Int32 × (Nat → Int32) × (Nat → Int32)} (hf : f_X15_number (I 493) (I 495) (I 496) (I 497) (I 529) (I 533) x1 = some r0) : q_Ct g m_X15_number d 0 0 [] [.ref 492, .int x1] (q_hp (t, r, 0, 529, 539, (q_pE ext), (q_pR rx), L) I E) (fun o h' => o = .inl (some (.int r0.1)) ∧ h' = q_hp (t, r, 0, 529, 539, (q_pE ext), (q_pR rx), L) (q_ws I [(529, r0.2.1), (533, r0.2.2)]) (q_ws E [])) := by
  rw [f_X15_number] at hf
  refine q_Ct_of ok_X15_number (Nat.le_of_ble_eq_true rfl) ?_ _ rfl rfl
  change q_J g m_X15_number d 0 0 _ [] _ 0 0 (q_kc (t, r, 0, 529, 539, (q_pE ext), (q_pR rx), L) I E 0 [some (.ref 492), some (.int x1), none] [] [] [])
  refine q_blk 2 [] (c' := q_kc (t, r, 0, 529, 539, (q_pE ext), (q_pR rx), L) I E 2 [some (.ref 492), some (.int x1), none] [.int x1, .ref 492] [] []) ok_X15_number rfl q_cn ?_
  obtain ⟨r1, hr1, hf⟩ := q_bd hf
  refine q_kV (M2 := m_X15_numberAt) (As := [.int x1]) (b := 492) (v2 := some (.int r1)) ok_X15_number ok_X15_numberAt cv_X15_numberAt (ct_X15_numberAt_492 (d := 1) (Nat.le_refl _) hr1) rfl rfl (Or.inl rfl) rfl rfl rfl rfl (Nat.le_trans (Nat.le_of_ble_eq_true rfl) hd) (Nat.le_of_ble_eq_true rfl) (Nat.le_of_ble_eq_true rfl) (Nat.le_of_ble_eq_true rfl) (fun x hx => absurd hx List.not_mem_nil) (q_nmL0 _) (q_nmS0 _) rfl (pos' := 3) (st' := [.int r1]) (lI' := []) (lE' := []) rfl rfl rfl rfl ?_
  obtain ⟨j2, hj2, hf⟩ := q_bd hf
  refine q_blk 5 [j2] (c' := q_kc (t, r, 0, 529, 539, (q_pE ext), (q_pR rx), L) I E 8 [some (.ref 492), some (.int x1), some (.int r1)] [.int ((I 497) j2)] [] []) ok_X15_number rfl (q_cc hj2 q_cn) ?_
  refine q_ksw [9, 19, 29] ok_X15_number rfl (dp := 39) rfl (fun ix t9 ht9 hx9 => ?_) (fun hx9 => ?_) (by decide) (by decide)
  · match ix, ht9 with
    | 0, ht9 =>
      have hx9 : ((I 497) j2) = 6 := hx9
      cases ht9
      have hf := q_ip hx9 hf
      refine q_blk 8 [] (c' := q_kc (t, r, 0, 529, 539, (q_pE ext), (q_pR rx), L) I E 17 [some (.ref 492), some (.int x1), some (.int r1)] [.int (64 : Int32), .int (8 : Int32), .int x1, .ref 492] [(529, (q_up (I 529) 1 r1))] []) ok_X15_number rfl q_cn ?_
      obtain ⟨r3, hr3, hf⟩ := q_bd hf
      refine q_kV (M2 := m_X15_inRange) (As := [.int x1, .int (8 : Int32), .int (64 : Int32)]) (b := 492) (v2 := some (.int r3)) ok_X15_number ok_X15_inRange cv_X15_inRange (ct_X15_inRange_492 (d := 2) (Nat.le_refl _) hr3) rfl rfl (Or.inl rfl) rfl rfl rfl rfl (Nat.le_trans (Nat.le_of_ble_eq_true rfl) hd) (Nat.le_of_ble_eq_true rfl) (Nat.le_of_ble_eq_true rfl) (Nat.le_of_ble_eq_true rfl) (fun x hx => absurd hx List.not_mem_nil) (q_nmL0 _) (q_nmS0 _) rfl (pos' := 18) (st' := [.int r3]) (lI' := [(529, (q_up (I 529) 1 r1))]) (lE' := []) rfl rfl rfl rfl ?_
      cases hf
      exact q_kri ok_X15_number rfl rfl rfl (Nat.le_of_ble_eq_true rfl) (Nat.le_of_ble_eq_true rfl) ⟨rfl, q_hpe (q_fin [529, 533] rfl) (q_fin [] rfl)⟩
    | 1, ht9 =>
      have hx9 : ((I 497) j2) = 7 := hx9
      cases ht9
      have hf := q_in (fun hz9 => absurd (hx9.symm.trans hz9) (by decide)) hf
      have hf := q_ip hx9 hf
      refine q_blk 8 [] (c' := q_kc (t, r, 0, 529, 539, (q_pE ext), (q_pR rx), L) I E 27 [some (.ref 492), some (.int x1), some (.int r1)] [.int (64 : Int32), .int (0 : Int32), .int x1, .ref 492] [(529, (q_up (I 529) 2 r1))] []) ok_X15_number rfl q_cn ?_
      obtain ⟨r4, hr4, hf⟩ := q_bd hf
      refine q_kV (M2 := m_X15_inRange) (As := [.int x1, .int (0 : Int32), .int (64 : Int32)]) (b := 492) (v2 := some (.int r4)) ok_X15_number ok_X15_inRange cv_X15_inRange (ct_X15_inRange_492 (d := 2) (Nat.le_refl _) hr4) rfl rfl (Or.inl rfl) rfl rfl rfl rfl (Nat.le_trans (Nat.le_of_ble_eq_true rfl) hd) (Nat.le_of_ble_eq_true rfl) (Nat.le_of_ble_eq_true rfl) (Nat.le_of_ble_eq_true rfl) (fun x hx => absurd hx List.not_mem_nil) (q_nmL0 _) (q_nmS0 _) rfl (pos' := 28) (st' := [.int r4]) (lI' := [(529, (q_up (I 529) 2 r1))]) (lE' := []) rfl rfl rfl rfl ?_
      cases hf
      exact q_kri ok_X15_number rfl rfl rfl (Nat.le_of_ble_eq_true rfl) (Nat.le_of_ble_eq_true rfl) ⟨rfl, q_hpe (q_fin [529, 533] rfl) (q_fin [] rfl)⟩
    | 2, ht9 =>
      have hx9 : ((I 497) j2) = 8 := hx9
      cases ht9
      have hf := q_in (fun hz9 => absurd (hx9.symm.trans hz9) (by decide)) hf
      have hf := q_in (fun hz9 => absurd (hx9.symm.trans hz9) (by decide)) hf
      have hf := q_ip hx9 hf
      refine q_blk 8 [] (c' := q_kc (t, r, 0, 529, 539, (q_pE ext), (q_pR rx), L) I E 37 [some (.ref 492), some (.int x1), some (.int r1)] [.int (5 : Int32), .int (0 : Int32), .int x1, .ref 492] [(529, (q_up (I 529) 3 r1))] []) ok_X15_number rfl q_cn ?_
      obtain ⟨r5, hr5, hf⟩ := q_bd hf
      refine q_kV (M2 := m_X15_inRange) (As := [.int x1, .int (0 : Int32), .int (5 : Int32)]) (b := 492) (v2 := some (.int r5)) ok_X15_number ok_X15_inRange cv_X15_inRange (ct_X15_inRange_492 (d := 2) (Nat.le_refl _) hr5) rfl rfl (Or.inl rfl) rfl rfl rfl rfl (Nat.le_trans (Nat.le_of_ble_eq_true rfl) hd) (Nat.le_of_ble_eq_true rfl) (Nat.le_of_ble_eq_true rfl) (Nat.le_of_ble_eq_true rfl) (fun x hx => absurd hx List.not_mem_nil) (q_nmL0 _) (q_nmS0 _) rfl (pos' := 38) (st' := [.int r5]) (lI' := [(529, (q_up (I 529) 3 r1))]) (lE' := []) rfl rfl rfl rfl ?_
      cases hf
      exact q_kri ok_X15_number rfl rfl rfl (Nat.le_of_ble_eq_true rfl) (Nat.le_of_ble_eq_true rfl) ⟨rfl, q_hpe (q_fin [529, 533] rfl) (q_fin [] rfl)⟩
    | z9 + 3, ht9 => cases ht9
  · have hf := q_in (hx9 0 (by decide)) hf
    have hf := q_in (hx9 1 (by decide)) hf
    have hf := q_in (hx9 2 (by decide)) hf
    obtain ⟨j6, hj6, hf⟩ := q_bd hf
    refine q_blk 14 [j6] (c' := q_kc (t, r, 0, 529, 539, (q_pE ext), (q_pR rx), L) I E 53 [some (.ref 492), some (.int x1), some (.int r1)] [.int (3 : Int32), .int (0 : Int32), .int x1, .ref 492] [(533, (q_up (I 533) j6 r1))] []) ok_X15_number rfl (q_cc hj6 q_cn) ?_
    obtain ⟨r7, hr7, hf⟩ := q_bd hf
    refine q_kV (M2 := m_X15_inRange) (As := [.int x1, .int (0 : Int32), .int (3 : Int32)]) (b := 492) (v2 := some (.int r7)) ok_X15_number ok_X15_inRange cv_X15_inRange (ct_X15_inRange_492 (d := 2) (Nat.le_refl _) hr7) rfl rfl (Or.inl rfl) rfl rfl rfl rfl (Nat.le_trans (Nat.le_of_ble_eq_true rfl) hd) (Nat.le_of_ble_eq_true rfl) (Nat.le_of_ble_eq_true rfl) (Nat.le_of_ble_eq_true rfl) (fun x hx => absurd hx List.not_mem_nil) (q_nmL0 _) (q_nmS0 _) rfl (pos' := 54) (st' := [.int r7]) (lI' := [(533, (q_up (I 533) j6 r1))]) (lE' := []) rfl rfl rfl rfl ?_
    cases hf
    exact q_kri ok_X15_number rfl rfl rfl (Nat.le_of_ble_eq_true rfl) (Nat.le_of_ble_eq_true rfl) ⟨rfl, q_hpe (q_fin [529, 533] rfl) (q_fin [] rfl)⟩
set_option maxHeartbeats 4000000 in
theorem ct_X15_errorOf_492 {g : q_G} {t : Nat} {r : Nat} {ext : Nat → q_Sh} {rx : Nat → Nat → Option Nat} {L : Nat → Nat → Int64} {d : Nat} (hd : 5 ≤ d)  {I : Nat → Nat → Int32} {E : Nat → Nat → Option Nat} {x1 : Int32} {r0 : Int32 × (Nat → Int32) × (Nat → Int32) × (Nat → Int32) × (Nat → Int32) × (Nat → Int32) × (Nat → Int32)} (hf : f_X15_errorOf (I 493) (I 494) (I 495) (I 496) (I 497) (I 498) (I 529) (I 530) (I 531) (I 532) (I 533) x1 = some r0) : q_Ct g m_X15_errorOf d 0 0 [] [.ref 492, .int x1] (q_hp (t, r, 0, 529, 539, (q_pE ext), (q_pR rx), L) I E) (fun o h' => o = .inl (some (.int r0.1)) ∧ h' = q_hp (t, r, 0, 529, 539, (q_pE ext), (q_pR rx), L) (q_ws I [(498, r0.2.1), (529, r0.2.2.1), (530, r0.2.2.2.1), (531, r0.2.2.2.2.1), (532, r0.2.2.2.2.2.1), (533, r0.2.2.2.2.2.2)]) (q_ws E [])) := by
  rw [f_X15_errorOf] at hf
  refine q_Ct_of ok_X15_errorOf (Nat.le_of_ble_eq_true rfl) ?_ _ rfl rfl
  change q_J g m_X15_errorOf d 0 0 _ [] _ 0 0 (q_kc (t, r, 0, 529, 539, (q_pE ext), (q_pR rx), L) I E 0 [some (.ref 492), some (.int x1)] [] [] [])
  obtain ⟨j1, hj1, hf⟩ := q_bd hf
  refine q_blk 4 [j1] (c' := q_kc (t, r, 0, 529, 539, (q_pE ext), (q_pR rx), L) I E 4 [some (.ref 492), some (.int x1)] [.int ((I 497) j1)] [] []) ok_X15_errorOf rfl (q_cc hj1 q_cn) ?_
  refine q_ksw [5, 7, 11, 18, 18, 22] ok_X15_errorOf rfl (dp := 27) rfl (fun ix t9 ht9 hx9 => ?_) (fun hx9 => ?_) (by decide) (by decide)
  · match ix, ht9 with
    | 0, ht9 =>
      have hx9 : ((I 497) j1) = 0 := hx9
      cases ht9
      have hf := q_ip hx9 hf
      refine q_blk 1 [] (c' := q_kc (t, r, 0, 529, 539, (q_pE ext), (q_pR rx), L) I E 6 [some (.ref 492), some (.int x1)] [.int (0 : Int32)] [] []) ok_X15_errorOf rfl q_cn ?_
      cases hf
      exact q_kri ok_X15_errorOf rfl rfl rfl (Nat.le_of_ble_eq_true rfl) (Nat.le_of_ble_eq_true rfl) ⟨rfl, q_hpe (q_fin [498, 529, 530, 531, 532, 533] rfl) (q_fin [] rfl)⟩
    | 1, ht9 =>
      have hx9 : ((I 497) j1) = 1 := hx9
      cases ht9
      have hf := q_in (fun hz9 => absurd (hx9.symm.trans hz9) (by decide)) hf
      have hf := q_ip hx9 hf
      refine q_blk 2 [] (c' := q_kc (t, r, 0, 529, 539, (q_pE ext), (q_pR rx), L) I E 9 [some (.ref 492), some (.int x1)] [.int x1, .ref 492] [] []) ok_X15_errorOf rfl q_cn ?_
      obtain ⟨r2, hr2, hf⟩ := q_bd hf
      refine q_kV (M2 := m_X15_newHook) (As := [.int x1]) (b := 492) (v2 := some (.int r2.1)) ok_X15_errorOf ok_X15_newHook cv_X15_newHook (ct_X15_newHook_492 (d := 4) (Nat.le_refl _) hr2) rfl rfl (Or.inl rfl) rfl rfl rfl rfl (Nat.le_trans (Nat.le_of_ble_eq_true rfl) hd) (Nat.le_of_ble_eq_true rfl) (Nat.le_of_ble_eq_true rfl) (Nat.le_of_ble_eq_true rfl) (fun x hx => absurd hx List.not_mem_nil) (q_nmL0 _) (q_nmS0 _) rfl (pos' := 10) (st' := [.int r2.1]) (lI' := [(529, r2.2)]) (lE' := []) rfl rfl rfl rfl ?_
      cases hf
      exact q_kri ok_X15_errorOf rfl rfl rfl (Nat.le_of_ble_eq_true rfl) (Nat.le_of_ble_eq_true rfl) ⟨rfl, q_hpe (q_fin [498, 529, 530, 531, 532, 533] rfl) (q_fin [] rfl)⟩
    | 2, ht9 =>
      have hx9 : ((I 497) j1) = 2 := hx9
      cases ht9
      have hf := q_in (fun hz9 => absurd (hx9.symm.trans hz9) (by decide)) hf
      have hf := q_in (fun hz9 => absurd (hx9.symm.trans hz9) (by decide)) hf
      have hf := q_ip hx9 hf
      obtain ⟨j3, hj3, hf⟩ := q_bd hf
      refine q_blk 5 [j3] (c' := q_kc (t, r, 0, 529, 539, (q_pE ext), (q_pR rx), L) I E 16 [some (.ref 492), some (.int x1)] [.int ((I 494) j3), .ref 492] [] []) ok_X15_errorOf rfl (q_cc hj3 q_cn) ?_
      obtain ⟨r4, hr4, hf⟩ := q_bd hf
      refine q_kV (M2 := m_X15_newStep) (As := [.int ((I 494) j3)]) (b := 492) (v2 := some (.int r4.1)) ok_X15_errorOf ok_X15_newStep cv_X15_newStep (ct_X15_newStep_492 (d := 1) (Nat.le_refl _) hr4) rfl rfl (Or.inl rfl) rfl rfl rfl rfl (Nat.le_trans (Nat.le_of_ble_eq_true rfl) hd) (Nat.le_of_ble_eq_true rfl) (Nat.le_of_ble_eq_true rfl) (Nat.le_of_ble_eq_true rfl) (fun x hx => absurd hx List.not_mem_nil) (q_nmL0 _) (q_nmS0 _) rfl (pos' := 17) (st' := [.int r4.1]) (lI' := [(529, r4.2.1), (530, r4.2.2)]) (lE' := []) rfl rfl rfl rfl ?_
      cases hf
      exact q_kri ok_X15_errorOf rfl rfl rfl (Nat.le_of_ble_eq_true rfl) (Nat.le_of_ble_eq_true rfl) ⟨rfl, q_hpe (q_fin [498, 529, 530, 531, 532, 533] rfl) (q_fin [] rfl)⟩
    | 3, ht9 =>
      have hx9 : ((I 497) j1) = 3 := hx9
      cases ht9
      have hf := q_in (fun hz9 => absurd (hx9.symm.trans hz9) (by decide)) hf
      have hf := q_in (fun hz9 => absurd (hx9.symm.trans hz9) (by decide)) hf
      have hf := q_in (fun hz9 => absurd (hx9.symm.trans hz9) (by decide)) hf
      have hf := q_ip hx9 hf
      refine q_blk 2 [] (c' := q_kc (t, r, 0, 529, 539, (q_pE ext), (q_pR rx), L) I E 20 [some (.ref 492), some (.int x1)] [.int x1, .ref 492] [] []) ok_X15_errorOf rfl q_cn ?_
      obtain ⟨r5, hr5, hf⟩ := q_bd hf
      refine q_kV (M2 := m_X15_ofStep) (As := [.int x1]) (b := 492) (v2 := some (.int r5.1)) ok_X15_errorOf ok_X15_ofStep cv_X15_ofStep (ct_X15_ofStep_492 (d := 4) (Nat.le_refl _) hr5) rfl rfl (Or.inl rfl) rfl rfl rfl rfl (Nat.le_trans (Nat.le_of_ble_eq_true rfl) hd) (Nat.le_of_ble_eq_true rfl) (Nat.le_of_ble_eq_true rfl) (Nat.le_of_ble_eq_true rfl) (fun x hx => absurd hx List.not_mem_nil) (q_nmL0 _) (q_nmS0 _) rfl (pos' := 21) (st' := [.int r5.1]) (lI' := [(498, r5.2.1), (531, r5.2.2.1), (532, r5.2.2.2)]) (lE' := []) rfl rfl rfl rfl ?_
      cases hf
      exact q_kri ok_X15_errorOf rfl rfl rfl (Nat.le_of_ble_eq_true rfl) (Nat.le_of_ble_eq_true rfl) ⟨rfl, q_hpe (q_fin [498, 529, 530, 531, 532, 533] rfl) (q_fin [] rfl)⟩
    | 4, ht9 =>
      have hx9 : ((I 497) j1) = 4 := hx9
      cases ht9
      have hf := q_in (fun hz9 => absurd (hx9.symm.trans hz9) (by decide)) hf
      have hf := q_in (fun hz9 => absurd (hx9.symm.trans hz9) (by decide)) hf
      have hf := q_in (fun hz9 => absurd (hx9.symm.trans hz9) (by decide)) hf
      have hf := q_in (fun hz9 => absurd (hx9.symm.trans hz9) (by decide)) hf
      have hf := q_ip hx9 hf
      refine q_blk 2 [] (c' := q_kc (t, r, 0, 529, 539, (q_pE ext), (q_pR rx), L) I E 20 [some (.ref 492), some (.int x1)] [.int x1, .ref 492] [] []) ok_X15_errorOf rfl q_cn ?_
      obtain ⟨r6, hr6, hf⟩ := q_bd hf
      refine q_kV (M2 := m_X15_ofStep) (As := [.int x1]) (b := 492) (v2 := some (.int r6.1)) ok_X15_errorOf ok_X15_ofStep cv_X15_ofStep (ct_X15_ofStep_492 (d := 4) (Nat.le_refl _) hr6) rfl rfl (Or.inl rfl) rfl rfl rfl rfl (Nat.le_trans (Nat.le_of_ble_eq_true rfl) hd) (Nat.le_of_ble_eq_true rfl) (Nat.le_of_ble_eq_true rfl) (Nat.le_of_ble_eq_true rfl) (fun x hx => absurd hx List.not_mem_nil) (q_nmL0 _) (q_nmS0 _) rfl (pos' := 21) (st' := [.int r6.1]) (lI' := [(498, r6.2.1), (531, r6.2.2.1), (532, r6.2.2.2)]) (lE' := []) rfl rfl rfl rfl ?_
      cases hf
      exact q_kri ok_X15_errorOf rfl rfl rfl (Nat.le_of_ble_eq_true rfl) (Nat.le_of_ble_eq_true rfl) ⟨rfl, q_hpe (q_fin [498, 529, 530, 531, 532, 533] rfl) (q_fin [] rfl)⟩
    | 5, ht9 =>
      have hx9 : ((I 497) j1) = 5 := hx9
      cases ht9
      have hf := q_in (fun hz9 => absurd (hx9.symm.trans hz9) (by decide)) hf
      have hf := q_in (fun hz9 => absurd (hx9.symm.trans hz9) (by decide)) hf
      have hf := q_in (fun hz9 => absurd (hx9.symm.trans hz9) (by decide)) hf
      have hf := q_in (fun hz9 => absurd (hx9.symm.trans hz9) (by decide)) hf
      have hf := q_in (fun hz9 => absurd (hx9.symm.trans hz9) (by decide)) hf
      have hf := q_ip hx9 hf
      refine q_blk 3 [] (c' := q_kc (t, r, 0, 529, 539, (q_pE ext), (q_pR rx), L) I E 25 [some (.ref 492), some (.int x1)] [.int (1 : Int32), .int x1, .ref 492] [] []) ok_X15_errorOf rfl q_cn ?_
      obtain ⟨r7, hr7, hf⟩ := q_bd hf
      refine q_kV (M2 := m_X15_look) (As := [.int x1, .int (1 : Int32)]) (b := 492) (v2 := some (.int r7.1)) ok_X15_errorOf ok_X15_look cv_X15_look (ct_X15_look_492 (d := 3) (Nat.le_refl _) hr7) rfl rfl (Or.inl rfl) rfl rfl rfl rfl (Nat.le_trans (Nat.le_of_ble_eq_true rfl) hd) (Nat.le_of_ble_eq_true rfl) (Nat.le_of_ble_eq_true rfl) (Nat.le_of_ble_eq_true rfl) (fun x hx => absurd hx List.not_mem_nil) (q_nmL0 _) (q_nmS0 _) rfl (pos' := 26) (st' := [.int r7.1]) (lI' := [(498, r7.2)]) (lE' := []) rfl rfl rfl rfl ?_
      cases hf
      exact q_kri ok_X15_errorOf rfl rfl rfl (Nat.le_of_ble_eq_true rfl) (Nat.le_of_ble_eq_true rfl) ⟨rfl, q_hpe (q_fin [498, 529, 530, 531, 532, 533] rfl) (q_fin [] rfl)⟩
    | z9 + 6, ht9 => cases ht9
  · have hf := q_in (hx9 0 (by decide)) hf
    have hf := q_in (hx9 1 (by decide)) hf
    have hf := q_in (hx9 2 (by decide)) hf
    have hf := q_in (hx9 3 (by decide)) hf
    have hf := q_in (hx9 4 (by decide)) hf
    have hf := q_in (hx9 5 (by decide)) hf
    refine q_blk 2 [] (c' := q_kc (t, r, 0, 529, 539, (q_pE ext), (q_pR rx), L) I E 29 [some (.ref 492), some (.int x1)] [.int x1, .ref 492] [] []) ok_X15_errorOf rfl q_cn ?_
    obtain ⟨r8, hr8, hf⟩ := q_bd hf
    refine q_kV (M2 := m_X15_number) (As := [.int x1]) (b := 492) (v2 := some (.int r8.1)) ok_X15_errorOf ok_X15_number cv_X15_number (ct_X15_number_492 (d := 3) (Nat.le_refl _) hr8) rfl rfl (Or.inl rfl) rfl rfl rfl rfl (Nat.le_trans (Nat.le_of_ble_eq_true rfl) hd) (Nat.le_of_ble_eq_true rfl) (Nat.le_of_ble_eq_true rfl) (Nat.le_of_ble_eq_true rfl) (fun x hx => absurd hx List.not_mem_nil) (q_nmL0 _) (q_nmS0 _) rfl (pos' := 30) (st' := [.int r8.1]) (lI' := [(529, r8.2.1), (533, r8.2.2)]) (lE' := []) rfl rfl rfl rfl ?_
    cases hf
    exact q_kri ok_X15_errorOf rfl rfl rfl (Nat.le_of_ble_eq_true rfl) (Nat.le_of_ble_eq_true rfl) ⟨rfl, q_hpe (q_fin [498, 529, 530, 531, 532, 533] rfl) (q_fin [] rfl)⟩
