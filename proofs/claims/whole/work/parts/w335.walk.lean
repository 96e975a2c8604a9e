set_option maxHeartbeats 4000000 in
theorem lp_X15_isBoth_L5_492_P {g : q_G} {d dR mc ms : Nat} {h0 : q_H} {Q : (Option Value ⊕ String) → q_H → Prop} {k n : Nat} {t : Nat} {r : Nat} {ext : Nat → q_Sh} {rx : Nat → Nat → Option Nat} {L : Nat → Nat → Int64} (hd : dR + 9 ≤ d) (hk : k ≤ mc) (hn : n ≤ ms)  {r_isSingle : (Nat → Int32) → (Nat → Int32) → (Nat → Int32) → (Nat → Int32) → (Nat → Int32) → (Nat → Int32) → (Nat → Int32) → (Nat → Int32) → (Nat → Int32) → Option (Bool × (Nat → Int32) × (Nat → Int32) × (Nat → Int32) × (Nat → Int32) × (Nat → Int32))} (hq_isSingle : ∀ {I : Nat → Nat → Int32} {E : Nat → Nat → Option Nat} {r0 : Bool × (Nat → Int32) × (Nat → Int32) × (Nat → Int32) × (Nat → Int32) × (Nat → Int32)}, r_isSingle ((I 492)) ((I 493)) ((I 494)) ((I 495)) ((I 496)) ((I 497)) ((I 529)) ((I 537)) ((I 538)) = some r0 → q_Ct g m_X15_isSingle dR 0 0 [] [.ref 492] (q_hp (t, r, 0, 529, 539, (q_pE ext), (q_pR rx), L) I E) (fun o h' => o = .inl (some (.int (q_bz r0.1))) ∧ h' = q_hp (t, r, 0, 529, 539, (q_pE ext), (q_pR rx), L) (q_ws I [(492, r0.2.1), (497, r0.2.2.1), (529, r0.2.2.2.1), (537, r0.2.2.2.2.1), (538, r0.2.2.2.2.2)]) (q_ws E []))) {r_isTest : (Nat → Int32) → (Nat → Int32) → (Nat → Int32) → (Nat → Int32) → (Nat → Int32) → (Nat → Int32) → (Nat → Int32) → (Nat → Int32) → (Nat → Int32) → Option (Bool × (Nat → Int32) × (Nat → Int32) × (Nat → Int32) × (Nat → Int32) × (Nat → Int32))} (hq_isTest : ∀ {I : Nat → Nat → Int32} {E : Nat → Nat → Option Nat} {r0 : Bool × (Nat → Int32) × (Nat → Int32) × (Nat → Int32) × (Nat → Int32) × (Nat → Int32)}, r_isTest ((I 492)) ((I 493)) ((I 494)) ((I 495)) ((I 496)) ((I 497)) ((I 529)) ((I 537)) ((I 538)) = some r0 → q_Ct g m_X15_isTest dR 0 0 [] [.ref 492] (q_hp (t, r, 0, 529, 539, (q_pE ext), (q_pR rx), L) I E) (fun o h' => o = .inl (some (.int (q_bz r0.1))) ∧ h' = q_hp (t, r, 0, 529, 539, (q_pE ext), (q_pR rx), L) (q_ws I [(492, r0.2.1), (497, r0.2.2.1), (529, r0.2.2.2.1), (537, r0.2.2.2.2.1), (538, r0.2.2.2.2.2)]) (q_ws E []))) {r_isValue : (Nat → Int32) → (Nat → Int32) → (Nat → Int32) → (Nat → Int32) → (Nat → Int32) → (Nat → Int32) → (Nat → Int32) → (Nat → Int32) → (Nat → Int32) → Option (Bool × (Nat → Int32) × (Nat → Int32) × (Nat → Int32) × (Nat → Int32) × (Nat → Int32))} (hq_isValue : ∀ {I : Nat → Nat → Int32} {E : Nat → Nat → Option Nat} {r0 : Bool × (Nat → Int32) × (Nat → Int32) × (Nat → Int32) × (Nat → Int32) × (Nat → Int32)}, r_isValue ((I 492)) ((I 493)) ((I 494)) ((I 495)) ((I 496)) ((I 497)) ((I 529)) ((I 537)) ((I 538)) = some r0 → q_Ct g m_X15_isValue dR 0 0 [] [.ref 492] (q_hp (t, r, 0, 529, 539, (q_pE ext), (q_pR rx), L) I E) (fun o h' => o = .inl (some (.int (q_bz r0.1))) ∧ h' = q_hp (t, r, 0, 529, 539, (q_pE ext), (q_pR rx), L) (q_ws I [(492, r0.2.1), (497, r0.2.2.1), (529, r0.2.2.2.1), (537, r0.2.2.2.2.1), (538, r0.2.2.2.2.2)]) (q_ws E []))) {r_isSum : (Nat → Int32) → (Nat → Int32) → (Nat → Int32) → (Nat → Int32) → (Nat → Int32) → (Nat → Int32) → (Nat → Int32) → (Nat → Int32) → (Nat → Int32) → Option (Bool × (Nat → Int32) × (Nat → Int32) × (Nat → Int32) × (Nat → Int32) × (Nat → Int32))} (hq_isSum : ∀ {I : Nat → Nat → Int32} {E : Nat → Nat → Option Nat} {r0 : Bool × (Nat → Int32) × (Nat → Int32) × (Nat → Int32) × (Nat → Int32) × (Nat → Int32)}, r_isSum ((I 492)) ((I 493)) ((I 494)) ((I 495)) ((I 496)) ((I 497)) ((I 529)) ((I 537)) ((I 538)) = some r0 → q_Ct g m_X15_isSum dR 0 0 [] [.ref 492] (q_hp (t, r, 0, 529, 539, (q_pE ext), (q_pR rx), L) I E) (fun o h' => o = .inl (some (.int (q_bz r0.1))) ∧ h' = q_hp (t, r, 0, 529, 539, (q_pE ext), (q_pR rx), L) (q_ws I [(492, r0.2.1), (497, r0.2.2.1), (529, r0.2.2.2.1), (537, r0.2.2.2.2.1), (538, r0.2.2.2.2.2)]) (q_ws E []))) : ∀ (fu : Nat) {I : Nat → Nat → Int32} {E : Nat → Nat → Option Nat} {r0 : Nat × (Nat → Int32) × (Nat → Int32) × (Nat → Int32) × (Nat → Int32) × (Nat → Int32)} (hf : f_X15_isBoth_L5 r_isSingle r_isTest r_isValue r_isSum (I 493) (I 494) (I 495) (I 496) fu (I 492) (I 497) (I 529) (I 537) (I 538) = some r0) (hK0 : r0.1 = 0 → q_J g m_X15_isBoth d mc ms h0 [] Q k n (q_kc (t, r, 0, 529, 539, (q_pE ext), (q_pR rx), L) I E 18 [none] [] [(492, r0.2.1), (497, r0.2.2.1), (529, r0.2.2.2.1), (537, r0.2.2.2.2.1), (538, r0.2.2.2.2.2)] [])) (hK1 : r0.1 = 1 → q_J g m_X15_isBoth d mc ms h0 [] Q k n (q_kc (t, r, 0, 529, 539, (q_pE ext), (q_pR rx), L) I E 12 [none] [] [(492, r0.2.1), (497, r0.2.2.1), (529, r0.2.2.2.1), (537, r0.2.2.2.2.1), (538, r0.2.2.2.2.2)] [])), q_J g m_X15_isBoth d mc ms h0 [] Q k n (5, [some (.ref 492)], [], q_hp (t, r, 0, 529, 539, (q_pE ext), (q_pR rx), L) I E) := by
  intro fu
  induction fu with
  | zero =>
    intro I E r0 hf hK0 hK1
    rw [f_X15_isBoth_L5] at hf
    cases hf
  | succ fu ih =>
    intro I E r0 hf hK0 hK1
    rw [f_X15_isBoth_L5] at hf
    change q_J g m_X15_isBoth d mc ms h0 [] Q k n (q_kc (t, r, 0, 529, 539, (q_pE ext), (q_pR rx), L) I E 5 [some (.ref 492)] [] [] [])
    refine q_blk 2 [] (c' := q_kc (t, r, 0, 529, 539, (q_pE ext), (q_pR rx), L) I E 7 [some (.ref 492)] [.int (25 : Int32), .ref 492] [] []) ok_X15_isBoth rfl q_cn ?_
    obtain ⟨r1, hr1, hf⟩ := q_bd hf
    refine q_kV (M2 := m_X15_eat) (As := [.int (25 : Int32)]) (b := 492) (v2 := some (.int (q_bz r1.1))) ok_X15_isBoth ok_X15_eat cv_X15_eat (ct_X15_eat_492_P (d := 2) (Nat.le_refl _) hr1) rfl rfl (Or.inl rfl) rfl rfl rfl rfl (by omega) hk hn (Nat.le_of_ble_eq_true rfl) (fun x hx => absurd hx List.not_mem_nil) (q_nmL0 _) (q_nmS0 _) rfl (pos' := 8) (st' := [.int (q_bz r1.1)]) (lI' := [(492, r1.2)]) (lE' := []) rfl rfl (q_mgw rfl rfl) rfl ?_
    refine q_blf 0 [] (a := q_kc (t, r, 0, 529, 539, (q_pE ext), (q_pR rx), L) I E 18 [some (.ref 492)] [] [(492, r1.2)] []) (b := q_kc (t, r, 0, 529, 539, (q_pE ext), (q_pR rx), L) I E 9 [some (.ref 492)] [] [(492, r1.2)] []) (P := (q_bz r1.1) = 0) ok_X15_isBoth rfl q_cn (fun h2 => ?_) (fun h2 => ?_)
    · have hf := q_ip h2 hf
      refine q_less (ls' := [none]) (q_sb1 q_sb0) ?_
      cases hf
      exact q_Jpad (q_pdw [492, 497, 529, 537, 538] rfl rfl) (q_pdw [] rfl rfl) (hK0 rfl)
    · have hf := q_in h2 hf
      refine q_blk 1 [] (c' := q_kc (t, r, 0, 529, 539, (q_pE ext), (q_pR rx), L) I E 10 [some (.ref 492)] [.ref 492] [(492, r1.2)] []) ok_X15_isBoth rfl q_cn ?_
      obtain ⟨r3, hr3, hf⟩ := q_bd hf
      refine q_kV (M2 := m_X15_isSingle) (As := []) (b := 492) (v2 := some (.int (q_bz r3.1))) ok_X15_isBoth ok_X15_isSingle cv_X15_isSingle (ct_X15_isSingle_492_P (d := dR + 8) (Nat.le_refl _) hq_isSingle hq_isTest hq_isValue hq_isSum hr3) rfl rfl (Or.inl rfl) rfl rfl rfl rfl (by omega) hk hn (Nat.le_of_ble_eq_true rfl) (fun x hx => absurd hx List.not_mem_nil) (q_nmL0 _) (q_nmS0 _) rfl (pos' := 11) (st' := [.int (q_bz r3.1)]) (lI' := [(492, r3.2.1), (497, r3.2.2.1), (529, r3.2.2.2.1), (537, r3.2.2.2.2.1), (538, r3.2.2.2.2.2)]) (lE' := []) rfl rfl (q_mgw rfl rfl) rfl ?_
      refine q_blf 0 [] (a := q_kc (t, r, 0, 529, 539, (q_pE ext), (q_pR rx), L) I E 14 [some (.ref 492)] [] [(492, r3.2.1), (497, r3.2.2.1), (529, r3.2.2.2.1), (537, r3.2.2.2.2.1), (538, r3.2.2.2.2.2)] []) (b := q_kc (t, r, 0, 529, 539, (q_pE ext), (q_pR rx), L) I E 12 [some (.ref 492)] [] [(492, r3.2.1), (497, r3.2.2.1), (529, r3.2.2.2.1), (537, r3.2.2.2.2.1), (538, r3.2.2.2.2.2)] []) (P := ¬ (q_bz r3.1) = 0) ok_X15_isBoth rfl q_cn (fun h4 => ?_) (fun h4 => ?_)
      · have hf := q_ip h4 hf
        refine q_blk 2 [] (c' := q_kc (t, r, 0, 529, 539, (q_pE ext), (q_pR rx), L) I E 16 [some (.ref 492)] [.int (25 : Int32), .ref 492] [(492, r3.2.1), (497, r3.2.2.1), (529, r3.2.2.2.1), (537, r3.2.2.2.2.1), (538, r3.2.2.2.2.2)] []) ok_X15_isBoth rfl q_cn ?_
        obtain ⟨r5, hr5, hf⟩ := q_bd hf
        refine q_kV (M2 := m_X15_put) (As := [.int (25 : Int32)]) (b := 492) (v2 := none) ok_X15_isBoth ok_X15_put cv_X15_put (ct_X15_put_492_P (d := 1) (Nat.le_refl _) hr5) rfl rfl (Or.inl rfl) rfl rfl rfl rfl (by omega) hk hn (Nat.le_of_ble_eq_true rfl) (fun x hx => absurd hx List.not_mem_nil) (q_nmL0 _) (q_nmS0 _) rfl (pos' := 17) (st' := []) (lI' := [(492, r3.2.1), (497, r3.2.2.1), (529, r5.1), (537, r5.2), (538, r3.2.2.2.2.2)]) (lE' := []) rfl rfl (q_mgw rfl rfl) rfl ?_
        refine q_blk 1 [] (c' := q_kc (t, r, 0, 529, 539, (q_pE ext), (q_pR rx), L) I E 5 [some (.ref 492)] [] [(492, r3.2.1), (497, r3.2.2.1), (529, r5.1), (537, r5.2), (538, r3.2.2.2.2.2)] []) ok_X15_isBoth rfl q_cn ?_
        exact ih (I := q_ws I [(492, r3.2.1), (497, r3.2.2.1), (529, r5.1), (537, r5.2), (538, r3.2.2.2.2.2)]) (E := q_ws E []) hf (fun hz => q_Jmrg (q_mgw rfl rfl) (q_mgw rfl rfl) (hK0 hz)) (fun hz => q_Jmrg (q_mgw rfl rfl) (q_mgw rfl rfl) (hK1 hz))
      · have hf := q_in h4 hf
        refine q_less (ls' := [none]) (q_sb1 q_sb0) ?_
        cases hf
        exact q_Jpad (q_pdw [492, 497, 529, 537, 538] rfl rfl) (q_pdw [] rfl rfl) (hK1 rfl)
set_option maxHeartbeats 4000000 in
theorem ct_X15_isBoth_492_P {g : q_G} {t : Nat} {r : Nat} {ext : Nat → q_Sh} {rx : Nat → Nat → Option Nat} {L : Nat → Nat → Int64} {d dR : Nat} (hd : dR + 9 ≤ d)  {r_isSingle : (Nat → Int32) → (Nat → Int32) → (Nat → Int32) → (Nat → Int32) → (Nat → Int32) → (Nat → Int32) → (Nat → Int32) → (Nat → Int32) → (Nat → Int32) → Option (Bool × (Nat → Int32) × (Nat → Int32) × (Nat → Int32) × (Nat → Int32) × (Nat → Int32))} (hq_isSingle : ∀ {I : Nat → Nat → Int32} {E : Nat → Nat → Option Nat} {r0 : Bool × (Nat → Int32) × (Nat → Int32) × (Nat → Int32) × (Nat → Int32) × (Nat → Int32)}, r_isSingle ((I 492)) ((I 493)) ((I 494)) ((I 495)) ((I 496)) ((I 497)) ((I 529)) ((I 537)) ((I 538)) = some r0 → q_Ct g m_X15_isSingle dR 0 0 [] [.ref 492] (q_hp (t, r, 0, 529, 539, (q_pE ext), (q_pR rx), L) I E) (fun o h' => o = .inl (some (.int (q_bz r0.1))) ∧ h' = q_hp (t, r, 0, 529, 539, (q_pE ext), (q_pR rx), L) (q_ws I [(492, r0.2.1), (497, r0.2.2.1), (529, r0.2.2.2.1), (537, r0.2.2.2.2.1), (538, r0.2.2.2.2.2)]) (q_ws E []))) {r_isTest : (Nat → Int32) → (Nat → Int32) → (Nat → Int32) → (Nat → Int32) → (Nat → Int32) → (Nat → Int32) → (Nat → Int32) → (Nat → Int32) → (Nat → Int32) → Option (Bool × (Nat → Int32) × (Nat → Int32) × (Nat → Int32) × (Nat → Int32) × (Nat → Int32))} (hq_isTest : ∀ {I : Nat → Nat → Int32} {E : Nat → Nat → Option Nat} {r0 : Bool × (Nat → Int32) × (Nat → Int32) × (Nat → Int32) × (Nat → Int32) × (Nat → Int32)}, r_isTest ((I 492)) ((I 493)) ((I 494)) ((I 495)) ((I 496)) ((I 497)) ((I 529)) ((I 537)) ((I 538)) = some r0 → q_Ct g m_X15_isTest dR 0 0 [] [.ref 492] (q_hp (t, r, 0, 529, 539, (q_pE ext), (q_pR rx), L) I E) (fun o h' => o = .inl (some (.int (q_bz r0.1))) ∧ h' = q_hp (t, r, 0, 529, 539, (q_pE ext), (q_pR rx), L) (q_ws I [(492, r0.2.1), (497, r0.2.2.1), (529, r0.2.2.2.1), (537, r0.2.2.2.2.1), (538, r0.2.2.2.2.2)]) (q_ws E []))) {r_isValue : (Nat → Int32) → (Nat → Int32) → (Nat → Int32) → (Nat → Int32) → (Nat → Int32) → (Nat → Int32) → (Nat → Int32) → (Nat → Int32) → (Nat → Int32) → Option (Bool × (Nat → Int32) × (Nat → Int32) × (Nat → Int32) × (Nat → Int32) × (Nat → Int32))} (hq_isValue : ∀ {I : Nat → Nat → Int32} {E : Nat → Nat → Option Nat} {r0 : Bool × (Nat → Int32) × (Nat → Int32) × (Nat → Int32) × (Nat → Int32) × (Nat → Int32)}, r_isValue ((I 492)) ((I 493)) ((I 494)) ((I 495)) ((I 496)) ((I 497)) ((I 529)) ((I 537)) ((I 538)) = some r0 → q_Ct g m_X15_isValue dR 0 0 [] [.ref 492] (q_hp (t, r, 0, 529, 539, (q_pE ext), (q_pR rx), L) I E) (fun o h' => o = .inl (some (.int (q_bz r0.1))) ∧ h' = q_hp (t, r, 0, 529, 539, (q_pE ext), (q_pR rx), L) (q_ws I [(492, r0.2.1), (497, r0.2.2.1), (529, r0.2.2.2.1), (537, r0.2.2.2.2.1), (538, r0.2.2.2.2.2)]) (q_ws E []))) {r_isSum : (Nat → Int32) → (Nat → Int32) → (Nat → Int32) → (Nat → Int32) → (Nat → Int32) → (Nat → Int32) → (Nat → Int32) → (Nat → Int32) → (Nat → Int32) → Option (Bool × (Nat → Int32) × (Nat → Int32) × (Nat → Int32) × (Nat → Int32) × (Nat → Int32))} (hq_isSum : ∀ {I : Nat → Nat → Int32} {E : Nat → Nat → Option Nat} {r0 : Bool × (Nat → Int32) × (Nat → Int32) × (Nat → Int32) × (Nat → Int32) × (Nat → Int32)}, r_isSum ((I 492)) ((I 493)) ((I 494)) ((I 495)) ((I 496)) ((I 497)) ((I 529)) ((I 537)) ((I 538)) = some r0 → q_Ct g m_X15_isSum dR 0 0 [] [.ref 492] (q_hp (t, r, 0, 529, 539, (q_pE ext), (q_pR rx), L) I E) (fun o h' => o = .inl (some (.int (q_bz r0.1))) ∧ h' = q_hp (t, r, 0, 529, 539, (q_pE ext), (q_pR rx), L) (q_ws I [(492, r0.2.1), (497, r0.2.2.1), (529, r0.2.2.2.1), (537, r0.2.2.2.2.1), (538, r0.2.2.2.2.2)]) (q_ws E []))){I : Nat → Nat → Int32} {E : Nat → Nat → Option Nat} {r0 : Bool × (Nat → Int32) × (Nat → Int32) × (Nat → Int32) × (Nat → Int32) × (Nat → Int32)} (hf : f_X15_isBoth r_isSingle r_isTest r_isValue r_isSum (I 492) (I 493) (I 494) (I 495) (I 496) (I 497) (I 529) (I 537) (I 538) = some r0) : q_Ct g m_X15_isBoth d 0 0 [] [.ref 492] (q_hp (t, r, 0, 529, 539, (q_pE ext), (q_pR rx), L) I E) (fun o h' => o = .inl (some (.int (q_bz r0.1))) ∧ h' = q_hp (t, r, 0, 529, 539, (q_pE ext), (q_pR rx), L) (q_ws I [(492, r0.2.1), (497, r0.2.2.1), (529, r0.2.2.2.1), (537, r0.2.2.2.2.1), (538, r0.2.2.2.2.2)]) (q_ws E [])) := by
  rw [f_X15_isBoth] at hf
  refine q_Ct_of ok_X15_isBoth (Nat.le_of_ble_eq_true rfl) ?_ _ rfl rfl
  change q_J g m_X15_isBoth d 0 0 _ [] _ 0 0 (q_kc (t, r, 0, 529, 539, (q_pE ext), (q_pR rx), L) I E 0 [some (.ref 492)] [] [] [])
  refine q_blk 1 [] (c' := q_kc (t, r, 0, 529, 539, (q_pE ext), (q_pR rx), L) I E 1 [some (.ref 492)] [.ref 492] [] []) ok_X15_isBoth rfl q_cn ?_
  obtain ⟨r6, hr6, hf⟩ := q_bd hf
  refine q_kV (M2 := m_X15_isSingle) (As := []) (b := 492) (v2 := some (.int (q_bz r6.1))) ok_X15_isBoth ok_X15_isSingle cv_X15_isSingle (ct_X15_isSingle_492_P (d := dR + 8) (Nat.le_refl _) hq_isSingle hq_isTest hq_isValue hq_isSum hr6) rfl rfl (Or.inl rfl) rfl rfl rfl rfl (by omega) (Nat.le_of_ble_eq_true rfl) (Nat.le_of_ble_eq_true rfl) (Nat.le_of_ble_eq_true rfl) (fun x hx => absurd hx List.not_mem_nil) (q_nmL0 _) (q_nmS0 _) rfl (pos' := 2) (st' := [.int (q_bz r6.1)]) (lI' := [(492, r6.2.1), (497, r6.2.2.1), (529, r6.2.2.2.1), (537, r6.2.2.2.2.1), (538, r6.2.2.2.2.2)]) (lE' := []) rfl rfl (q_mgw rfl rfl) rfl ?_
  refine q_blf 0 [] (a := q_kc (t, r, 0, 529, 539, (q_pE ext), (q_pR rx), L) I E 5 [some (.ref 492)] [] [(492, r6.2.1), (497, r6.2.2.1), (529, r6.2.2.2.1), (537, r6.2.2.2.2.1), (538, r6.2.2.2.2.2)] []) (b := q_kc (t, r, 0, 529, 539, (q_pE ext), (q_pR rx), L) I E 3 [some (.ref 492)] [] [(492, r6.2.1), (497, r6.2.2.1), (529, r6.2.2.2.1), (537, r6.2.2.2.2.1), (538, r6.2.2.2.2.2)] []) (P := ¬ (q_bz r6.1) = 0) ok_X15_isBoth rfl q_cn (fun h7 => ?_) (fun h7 => ?_)
  · have hf := q_ip h7 hf
    obtain ⟨r8, hr8, hf⟩ := q_bd hf
    refine lp_X15_isBoth_L5_492_P (I := q_ws I [(492, r6.2.1), (497, r6.2.2.1), (529, r6.2.2.2.1), (537, r6.2.2.2.2.1), (538, r6.2.2.2.2.2)]) (E := q_ws E []) hd (Nat.le_of_ble_eq_true rfl) (Nat.le_of_ble_eq_true rfl) hq_isSingle hq_isTest hq_isValue hq_isSum 4096 hr8 ?_ ?_
    · intro hz0
      have hf := q_ip hz0 hf
      refine q_Jmrg (lI' := [(492, r8.2.1), (497, r8.2.2.1), (529, r8.2.2.2.1), (537, r8.2.2.2.2.1), (538, r8.2.2.2.2.2)]) (lE' := []) (q_mgw rfl rfl) (q_mgw rfl rfl) ?_
      refine q_blk 1 [] (c' := q_kc (t, r, 0, 529, 539, (q_pE ext), (q_pR rx), L) I E 19 [none] [.int (1 : Int32)] [(492, r8.2.1), (497, r8.2.2.1), (529, r8.2.2.2.1), (537, r8.2.2.2.2.1), (538, r8.2.2.2.2.2)] []) ok_X15_isBoth rfl q_cn ?_
      cases hf
      exact q_kri ok_X15_isBoth rfl rfl rfl (Nat.le_of_ble_eq_true rfl) (Nat.le_of_ble_eq_true rfl) ⟨rfl, q_hpe (q_pdw [492, 497, 529, 537, 538] rfl rfl) (q_pdw [] rfl rfl)⟩
    · intro hz1
      have hf := q_in (fun h9 => absurd (hz1.symm.trans h9) (by decide)) hf
      refine q_Jmrg (lI' := [(492, r8.2.1), (497, r8.2.2.1), (529, r8.2.2.2.1), (537, r8.2.2.2.2.1), (538, r8.2.2.2.2.2)]) (lE' := []) (q_mgw rfl rfl) (q_mgw rfl rfl) ?_
      refine q_blk 1 [] (c' := q_kc (t, r, 0, 529, 539, (q_pE ext), (q_pR rx), L) I E 13 [none] [.int (0 : Int32)] [(492, r8.2.1), (497, r8.2.2.1), (529, r8.2.2.2.1), (537, r8.2.2.2.2.1), (538, r8.2.2.2.2.2)] []) ok_X15_isBoth rfl q_cn ?_
      cases hf
      exact q_kri ok_X15_isBoth rfl rfl rfl (Nat.le_of_ble_eq_true rfl) (Nat.le_of_ble_eq_true rfl) ⟨rfl, q_hpe (q_pdw [492, 497, 529, 537, 538] rfl rfl) (q_pdw [] rfl rfl)⟩
  · have hf := q_in h7 hf
    refine q_blk 1 [] (c' := q_kc (t, r, 0, 529, 539, (q_pE ext), (q_pR rx), L) I E 4 [some (.ref 492)] [.int (0 : Int32)] [(492, r6.2.1), (497, r6.2.2.1), (529, r6.2.2.2.1), (537, r6.2.2.2.2.1), (538, r6.2.2.2.2.2)] []) ok_X15_isBoth rfl q_cn ?_
    cases hf
    exact q_kri ok_X15_isBoth rfl rfl rfl (Nat.le_of_ble_eq_true rfl) (Nat.le_of_ble_eq_true rfl) ⟨rfl, q_hpe (q_pdw [492, 497, 529, 537, 538] rfl rfl) (q_pdw [] rfl rfl)⟩
set_option maxHeartbeats 4000000 in
theorem lp_X15_isTest_L5_492_P {g : q_G} {d dR mc ms : Nat} {h0 : q_H} {Q : (Option Value ⊕ String) → q_H → Prop} {k n : Nat} {t : Nat} {r : Nat} {ext : Nat → q_Sh} {rx : Nat → Nat → Option Nat} {L : Nat → Nat → Int64} (hd : dR + 10 ≤ d) (hk : k ≤ mc) (hn : n ≤ ms)  {r_isSingle : (Nat → Int32) → (Nat → Int32) → (Nat → Int32) → (Nat → Int32) → (Nat → Int32) → (Nat → Int32) → (Nat → Int32) → (Nat → Int32) → (Nat → Int32) → Option (Bool × (Nat → Int32) × (Nat → Int32) × (Nat → Int32) × (Nat → Int32) × (Nat → Int32))} (hq_isSingle : ∀ {I : Nat → Nat → Int32} {E : Nat → Nat → Option Nat} {r0 : Bool × (Nat → Int32) × (Nat → Int32) × (Nat → Int32) × (Nat → Int32) × (Nat → Int32)}, r_isSingle ((I 492)) ((I 493)) ((I 494)) ((I 495)) ((I 496)) ((I 497)) ((I 529)) ((I 537)) ((I 538)) = some r0 → q_Ct g m_X15_isSingle dR 0 0 [] [.ref 492] (q_hp (t, r, 0, 529, 539, (q_pE ext), (q_pR rx), L) I E) (fun o h' => o = .inl (some (.int (q_bz r0.1))) ∧ h' = q_hp (t, r, 0, 529, 539, (q_pE ext), (q_pR rx), L) (q_ws I [(492, r0.2.1), (497, r0.2.2.1), (529, r0.2.2.2.1), (537, r0.2.2.2.2.1), (538, r0.2.2.2.2.2)]) (q_ws E []))) {r_isTest : (Nat → Int32) → (Nat → Int32) → (Nat → Int32) → (Nat → Int32) → (Nat → Int32) → (Nat → Int32) → (Nat → Int32) → (Nat → Int32) → (Nat → Int32) → Option (Bool × (Nat → Int32) × (Nat → Int32) × (Nat → Int32) × (Nat → Int32) × (Nat → Int32))} (hq_isTest : ∀ {I : Nat → Nat → Int32} {E : Nat → Nat → Option Nat} {r0 : Bool × (Nat → Int32) × (Nat → Int32) × (Nat → Int32) × (Nat → Int32) × (Nat → Int32)}, r_isTest ((I 492)) ((I 493)) ((I 494)) ((I 495)) ((I 496)) ((I 497)) ((I 529)) ((I 537)) ((I 538)) = some r0 → q_Ct g m_X15_isTest dR 0 0 [] [.ref 492] (q_hp (t, r, 0, 529, 539, (q_pE ext), (q_pR rx), L) I E) (fun o h' => o = .inl (some (.int (q_bz r0.1))) ∧ h' = q_hp (t, r, 0, 529, 539, (q_pE ext), (q_pR rx), L) (q_ws I [(492, r0.2.1), (497, r0.2.2.1), (529, r0.2.2.2.1), (537, r0.2.2.2.2.1), (538, r0.2.2.2.2.2)]) (q_ws E []))) {r_isValue : (Nat → Int32) → (Nat → Int32) → (Nat → Int32) → (Nat → Int32) → (Nat → Int32) → (Nat → Int32) → (Nat → Int32) → (Nat → Int32) → (Nat → Int32) → Option (Bool × (Nat → Int32) × (Nat → Int32) × (Nat → Int32) × (Nat → Int32) × (Nat → Int32))} (hq_isValue : ∀ {I : Nat → Nat → Int32} {E : Nat → Nat → Option Nat} {r0 : Bool × (Nat → Int32) × (Nat → Int32) × (Nat → Int32) × (Nat → Int32) × (Nat → Int32)}, r_isValue ((I 492)) ((I 493)) ((I 494)) ((I 495)) ((I 496)) ((I 497)) ((I 529)) ((I 537)) ((I 538)) = some r0 → q_Ct g m_X15_isValue dR 0 0 [] [.ref 492] (q_hp (t, r, 0, 529, 539, (q_pE ext), (q_pR rx), L) I E) (fun o h' => o = .inl (some (.int (q_bz r0.1))) ∧ h' = q_hp (t, r, 0, 529, 539, (q_pE ext), (q_pR rx), L) (q_ws I [(492, r0.2.1), (497, r0.2.2.1), (529, r0.2.2.2.1), (537, r0.2.2.2.2.1), (538, r0.2.2.2.2.2)]) (q_ws E []))) {r_isSum : (Nat → Int32) → (Nat → Int32) → (Nat → Int32) → (Nat → Int32) → (Nat → Int32) → (Nat → Int32) → (Nat → Int32) → (Nat → Int32) → (Nat → Int32) → Option (Bool × (Nat → Int32) × (Nat → Int32) × (Nat → Int32) × (Nat → Int32) × (Nat → Int32))} (hq_isSum : ∀ {I : Nat → Nat → Int32} {E : Nat → Nat → Option Nat} {r0 : Bool × (Nat → Int32) × (Nat → Int32) × (Nat → Int32) × (Nat → Int32) × (Nat → Int32)}, r_isSum ((I 492)) ((I 493)) ((I 494)) ((I 495)) ((I 496)) ((I 497)) ((I 529)) ((I 537)) ((I 538)) = some r0 → q_Ct g m_X15_isSum dR 0 0 [] [.ref 492] (q_hp (t, r, 0, 529, 539, (q_pE ext), (q_pR rx), L) I E) (fun o h' => o = .inl (some (.int (q_bz r0.1))) ∧ h' = q_hp (t, r, 0, 529, 539, (q_pE ext), (q_pR rx), L) (q_ws I [(492, r0.2.1), (497, r0.2.2.1), (529, r0.2.2.2.1), (537, r0.2.2.2.2.1), (538, r0.2.2.2.2.2)]) (q_ws E []))) : ∀ (fu : Nat) {I : Nat → Nat → Int32} {E : Nat → Nat → Option Nat} {r0 : Nat × (Nat → Int32) × (Nat → Int32) × (Nat → Int32) × (Nat → Int32) × (Nat → Int32)} (hf : f_X15_isTest_L5 r_isSingle r_isTest r_isValue r_isSum (I 493) (I 494) (I 495) (I 496) fu (I 492) (I 497) (I 529) (I 537) (I 538) = some r0) (hK0 : r0.1 = 0 → q_J g m_X15_isTest d mc ms h0 [] Q k n (q_kc (t, r, 0, 529, 539, (q_pE ext), (q_pR rx), L) I E 18 [none] [] [(492, r0.2.1), (497, r0.2.2.1), (529, r0.2.2.2.1), (537, r0.2.2.2.2.1), (538, r0.2.2.2.2.2)] [])) (hK1 : r0.1 = 1 → q_J g m_X15_isTest d mc ms h0 [] Q k n (q_kc (t, r, 0, 529, 539, (q_pE ext), (q_pR rx), L) I E 12 [none] [] [(492, r0.2.1), (497, r0.2.2.1), (529, r0.2.2.2.1), (537, r0.2.2.2.2.1), (538, r0.2.2.2.2.2)] [])), q_J g m_X15_isTest d mc ms h0 [] Q k n (5, [some (.ref 492)], [], q_hp (t, r, 0, 529, 539, (q_pE ext), (q_pR rx), L) I E) := by
  intro fu
  induction fu with
  | zero =>
    intro I E r0 hf hK0 hK1
    rw [f_X15_isTest_L5] at hf
    cases hf
  | succ fu ih =>
    intro I E r0 hf hK0 hK1
    rw [f_X15_isTest_L5] at hf
    change q_J g m_X15_isTest d mc ms h0 [] Q k n (q_kc (t, r, 0, 529, 539, (q_pE ext), (q_pR rx), L) I E 5 [some (.ref 492)] [] [] [])
    refine q_blk 2 [] (c' := q_kc (t, r, 0, 529, 539, (q_pE ext), (q_pR rx), L) I E 7 [some (.ref 492)] [.int (26 : Int32), .ref 492] [] []) ok_X15_isTest rfl q_cn ?_
    obtain ⟨r1, hr1, hf⟩ := q_bd hf
    refine q_kV (M2 := m_X15_eat) (As := [.int (26 : Int32)]) (b := 492) (v2 := some (.int (q_bz r1.1))) ok_X15_isTest ok_X15_eat cv_X15_eat (ct_X15_eat_492_P (d := 2) (Nat.le_refl _) hr1) rfl rfl (Or.inl rfl) rfl rfl rfl rfl (by omega) hk hn (Nat.le_of_ble_eq_true rfl) (fun x hx => absurd hx List.not_mem_nil) (q_nmL0 _) (q_nmS0 _) rfl (pos' := 8) (st' := [.int (q_bz r1.1)]) (lI' := [(492, r1.2)]) (lE' := []) rfl rfl (q_mgw rfl rfl) rfl ?_
    refine q_blf 0 [] (a := q_kc (t, r, 0, 529, 539, (q_pE ext), (q_pR rx), L) I E 18 [some (.ref 492)] [] [(492, r1.2)] []) (b := q_kc (t, r, 0, 529, 539, (q_pE ext), (q_pR rx), L) I E 9 [some (.ref 492)] [] [(492, r1.2)] []) (P := (q_bz r1.1) = 0) ok_X15_isTest rfl q_cn (fun h2 => ?_) (fun h2 => ?_)
    · have hf := q_ip h2 hf
      refine q_less (ls' := [none]) (q_sb1 q_sb0) ?_
      cases hf
      exact q_Jpad (q_pdw [492, 497, 529, 537, 538] rfl rfl) (q_pdw [] rfl rfl) (hK0 rfl)
    · have hf := q_in h2 hf
      refine q_blk 1 [] (c' := q_kc (t, r, 0, 529, 539, (q_pE ext), (q_pR rx), L) I E 10 [some (.ref 492)] [.ref 492] [(492, r1.2)] []) ok_X15_isTest rfl q_cn ?_
      obtain ⟨r3, hr3, hf⟩ := q_bd hf
      refine q_kV (M2 := m_X15_isBoth) (As := []) (b := 492) (v2 := some (.int (q_bz r3.1))) ok_X15_isTest ok_X15_isBoth cv_X15_isBoth (ct_X15_isBoth_492_P (d := dR + 9) (Nat.le_refl _) hq_isSingle hq_isTest hq_isValue hq_isSum hr3) rfl rfl (Or.inl rfl) rfl rfl rfl rfl (by omega) hk hn (Nat.le_of_ble_eq_true rfl) (fun x hx => absurd hx List.not_mem_nil) (q_nmL0 _) (q_nmS0 _) rfl (pos' := 11) (st' := [.int (q_bz r3.1)]) (lI' := [(492, r3.2.1), (497, r3.2.2.1), (529, r3.2.2.2.1), (537, r3.2.2.2.2.1), (538, r3.2.2.2.2.2)]) (lE' := []) rfl rfl (q_mgw rfl rfl) rfl ?_
      refine q_blf 0 [] (a := q_kc (t, r, 0, 529, 539, (q_pE ext), (q_pR rx), L) I E 14 [some (.ref 492)] [] [(492, r3.2.1), (497, r3.2.2.1), (529, r3.2.2.2.1), (537, r3.2.2.2.2.1), (538, r3.2.2.2.2.2)] []) (b := q_kc (t, r, 0, 529, 539, (q_pE ext), (q_pR rx), L) I E 12 [some (.ref 492)] [] [(492, r3.2.1), (497, r3.2.2.1), (529, r3.2.2.2.1), (537, r3.2.2.2.2.1), (538, r3.2.2.2.2.2)] []) (P := ¬ (q_bz r3.1) = 0) ok_X15_isTest rfl q_cn (fun h4 => ?_) (fun h4 => ?_)
      · have hf := q_ip h4 hf
        refine q_blk 2 [] (c' := q_kc (t, r, 0, 529, 539, (q_pE ext), (q_pR rx), L) I E 16 [some (.ref 492)] [.int (26 : Int32), .ref 492] [(492, r3.2.1), (497, r3.2.2.1), (529, r3.2.2.2.1), (537, r3.2.2.2.2.1), (538, r3.2.2.2.2.2)] []) ok_X15_isTest rfl q_cn ?_
        obtain ⟨r5, hr5, hf⟩ := q_bd hf
        refine q_kV (M2 := m_X15_put) (As := [.int (26 : Int32)]) (b := 492) (v2 := none) ok_X15_isTest ok_X15_put cv_X15_put (ct_X15_put_492_P (d := 1) (Nat.le_refl _) hr5) rfl rfl (Or.inl rfl) rfl rfl rfl rfl (by omega) hk hn (Nat.le_of_ble_eq_true rfl) (fun x hx => absurd hx List.not_mem_nil) (q_nmL0 _) (q_nmS0 _) rfl (pos' := 17) (st' := []) (lI' := [(492, r3.2.1), (497, r3.2.2.1), (529, r5.1), (537, r5.2), (538, r3.2.2.2.2.2)]) (lE' := []) rfl rfl (q_mgw rfl rfl) rfl ?_
        refine q_blk 1 [] (c' := q_kc (t, r, 0, 529, 539, (q_pE ext), (q_pR rx), L) I E 5 [some (.ref 492)] [] [(492, r3.2.1), (497, r3.2.2.1), (529, r5.1), (537, r5.2), (538, r3.2.2.2.2.2)] []) ok_X15_isTest rfl q_cn ?_
        exact ih (I := q_ws I [(492, r3.2.1), (497, r3.2.2.1), (529, r5.1), (537, r5.2), (538, r3.2.2.2.2.2)]) (E := q_ws E []) hf (fun hz => q_Jmrg (q_mgw rfl rfl) (q_mgw rfl rfl) (hK0 hz)) (fun hz => q_Jmrg (q_mgw rfl rfl) (q_mgw rfl rfl) (hK1 hz))
      · have hf := q_in h4 hf
        refine q_less (ls' := [none]) (q_sb1 q_sb0) ?_
        cases hf
        exact q_Jpad (q_pdw [492, 497, 529, 537, 538] rfl rfl) (q_pdw [] rfl rfl) (hK1 rfl)
set_option maxHeartbeats 4000000 in
theorem ct_X15_isTest_492_P {g : q_G} {t : Nat} {r : Nat} {ext : Nat → q_Sh} {rx : Nat → Nat → Option Nat} {L : Nat → Nat → Int64} {d dR : Nat} (hd : dR + 10 ≤ d)  {r_isSingle : (Nat → Int32) → (Nat → Int32) → (Nat → Int32) → (Nat → Int32) → (Nat → Int32) → (Nat → Int32) → (Nat → Int32) → (Nat → Int32) → (Nat → Int32) → Option (Bool × (Nat → Int32) × (Nat → Int32) × (Nat → Int32) × (Nat → Int32) × (Nat → Int32))} (hq_isSingle : ∀ {I : Nat → Nat → Int32} {E : Nat → Nat → Option Nat} {r0 : Bool × (Nat → Int32) × (Nat → Int32) × (Nat → Int32) × (Nat → Int32) × (Nat → Int32)}, r_isSingle ((I 492)) ((I 493)) ((I 494)) ((I 495)) ((I 496)) ((I 497)) ((I 529)) ((I 537)) ((I 538)) = some r0 → q_Ct g m_X15_isSingle dR 0 0 [] [.ref 492] (q_hp (t, r, 0, 529, 539, (q_pE ext), (q_pR rx), L) I E) (fun o h' => o = .inl (some (.int (q_bz r0.1))) ∧ h' = q_hp (t, r, 0, 529, 539, (q_pE ext), (q_pR rx), L) (q_ws I [(492, r0.2.1), (497, r0.2.2.1), (529, r0.2.2.2.1), (537, r0.2.2.2.2.1), (538, r0.2.2.2.2.2)]) (q_ws E []))) {r_isTest : (Nat → Int32) → (Nat → Int32) → (Nat → Int32) → (Nat → Int32) → (Nat → Int32) → (Nat → Int32) → (Nat → Int32) → (Nat → Int32) → (Nat → Int32) → Option (Bool × (Nat → Int32) × (Nat → Int32) × (Nat → Int32) × (Nat → Int32) × (Nat → Int32))} (hq_isTest : ∀ {I : Nat → Nat → Int32} {E : Nat → Nat → Option Nat} {r0 : Bool × (Nat → Int32) × (Nat → Int32) × (Nat → Int32) × (Nat → Int32) × (Nat → Int32)}, r_isTest ((I 492)) ((I 493)) ((I 494)) ((I 495)) ((I 496)) ((I 497)) ((I 529)) ((I 537)) ((I 538)) = some r0 → q_Ct g m_X15_isTest dR 0 0 [] [.ref 492] (q_hp (t, r, 0, 529, 539, (q_pE ext), (q_pR rx), L) I E) (fun o h' => o = .inl (some (.int (q_bz r0.1))) ∧ h' = q_hp (t, r, 0, 529, 539, (q_pE ext), (q_pR rx), L) (q_ws I [(492, r0.2.1), (497, r0.2.2.1), (529, r0.2.2.2.1), (537, r0.2.2.2.2.1), (538, r0.2.2.2.2.2)]) (q_ws E []))) {r_isValue : (Nat → Int32) → (Nat → Int32) → (Nat → Int32) → (Nat → Int32) → (Nat → Int32) → (Nat → Int32) → (Nat → Int32) → (Nat → Int32) → (Nat → Int32) → Option (Bool × (Nat → Int32) × (Nat → Int32) × (Nat → Int32) × (Nat → Int32) × (Nat → Int32))} (hq_isValue : ∀ {I : Nat → Nat → Int32} {E : Nat → Nat → Option Nat} {r0 : Bool × (Nat → Int32) × (Nat → Int32) × (Nat → Int32) × (Nat → Int32) × (Nat → Int32)}, r_isValue ((I 492)) ((I 493)) ((I 494)) ((I 495)) ((I 496)) ((I 497)) ((I 529)) ((I 537)) ((I 538)) = some r0 → q_Ct g m_X15_isValue dR 0 0 [] [.ref 492] (q_hp (t, r, 0, 529, 539, (q_pE ext), (q_pR rx), L) I E) (fun o h' => o = .inl (some (.int (q_bz r0.1))) ∧ h' = q_hp (t, r, 0, 529, 539, (q_pE ext), (q_pR rx), L) (q_ws I [(492, r0.2.1), (497, r0.2.2.1), (529, r0.2.2.2.1), (537, r0.2.2.2.2.1), (538, r0.2.2.2.2.2)]) (q_ws E []))) {r_isSum : (Nat → Int32) → (Nat → Int32) → (Nat → Int32) → (Nat → Int32) → (Nat → Int32) → (Nat → Int32) → (Nat → Int32) → (Nat → Int32) → (Nat → Int32) → Option (Bool × (Nat → Int32) × (Nat → Int32) × (Nat → Int32) × (Nat → Int32) × (Nat → Int32))} (hq_isSum : ∀ {I : Nat → Nat → Int32} {E : Nat → Nat → Option Nat} {r0 : Bool × (Nat → Int32) × (Nat → Int32) × (Nat → Int32) × (Nat → Int32) × (Nat → Int32)}, r_isSum ((I 492)) ((I 493)) ((I 494)) ((I 495)) ((I 496)) ((I 497)) ((I 529)) ((I 537)) ((I 538)) = some r0 → q_Ct g m_X15_isSum dR 0 0 [] [.ref 492] (q_hp (t, r, 0, 529, 539, (q_pE ext), (q_pR rx), L) I E) (fun o h' => o = .inl (some (.int (q_bz r0.1))) ∧ h' = q_hp (t, r, 0, 529, 539, (q_pE ext), (q_pR rx), L) (q_ws I [(492, r0.2.1), (497, r0.2.2.1), (529, r0.2.2.2.1), (537, r0.2.2.2.2.1), (538, r0.2.2.2.2.2)]) (q_ws E []))){I : Nat → Nat → Int32} {E : Nat → Nat → Option Nat} {r0 : Bool × (Nat → Int32) × (Nat → Int32) × (Nat → Int32) × (Nat → Int32) × (Nat → Int32)} (hf : f_X15_isTest r_isSingle r_isTest r_isValue r_isSum (I 492) (I 493) (I 494) (I 495) (I 496) (I 497) (I 529) (I 537) (I 538) = some r0) : q_Ct g m_X15_isTest d 0 0 [] [.ref 492] (q_hp (t, r, 0, 529, 539, (q_pE ext), (q_pR rx), L) I E) (fun o h' => o = .inl (some (.int (q_bz r0.1))) ∧ h' = q_hp (t, r, 0, 529, 539, (q_pE ext), (q_pR rx), L) (q_ws I [(492, r0.2.1), (497, r0.2.2.1), (529, r0.2.2.2.1), (537, r0.2.2.2.2.1), (538, r0.2.2.2.2.2)]) (q_ws E [])) := by
  rw [f_X15_isTest] at hf
  refine q_Ct_of ok_X15_isTest (Nat.le_of_ble_eq_true rfl) ?_ _ rfl rfl
  change q_J g m_X15_isTest d 0 0 _ [] _ 0 0 (q_kc (t, r, 0, 529, 539, (q_pE ext), (q_pR rx), L) I E 0 [some (.ref 492)] [] [] [])
  refine q_blk 1 [] (c' := q_kc (t, r, 0, 529, 539, (q_pE ext), (q_pR rx), L) I E 1 [some (.ref 492)] [.ref 492] [] []) ok_X15_isTest rfl q_cn ?_
  obtain ⟨r6, hr6, hf⟩ := q_bd hf
  refine q_kV (M2 := m_X15_isBoth) (As := []) (b := 492) (v2 := some (.int (q_bz r6.1))) ok_X15_isTest ok_X15_isBoth cv_X15_isBoth (ct_X15_isBoth_492_P (d := dR + 9) (Nat.le_refl _) hq_isSingle hq_isTest hq_isValue hq_isSum hr6) rfl rfl (Or.inl rfl) rfl rfl rfl rfl (by omega) (Nat.le_of_ble_eq_true rfl) (Nat.le_of_ble_eq_true rfl) (Nat.le_of_ble_eq_true rfl) (fun x hx => absurd hx List.not_mem_nil) (q_nmL0 _) (q_nmS0 _) rfl (pos' := 2) (st' := [.int (q_bz r6.1)]) (lI' := [(492, r6.2.1), (497, r6.2.2.1), (529, r6.2.2.2.1), (537, r6.2.2.2.2.1), (538, r6.2.2.2.2.2)]) (lE' := []) rfl rfl (q_mgw rfl rfl) rfl ?_
  refine q_blf 0 [] (a := q_kc (t, r, 0, 529, 539, (q_pE ext), (q_pR rx), L) I E 5 [some (.ref 492)] [] [(492, r6.2.1), (497, r6.2.2.1), (529, r6.2.2.2.1), (537, r6.2.2.2.2.1), (538, r6.2.2.2.2.2)] []) (b := q_kc (t, r, 0, 529, 539, (q_pE ext), (q_pR rx), L) I E 3 [some (.ref 492)] [] [(492, r6.2.1), (497, r6.2.2.1), (529, r6.2.2.2.1), (537, r6.2.2.2.2.1), (538, r6.2.2.2.2.2)] []) (P := ¬ (q_bz r6.1) = 0) ok_X15_isTest rfl q_cn (fun h7 => ?_) (fun h7 => ?_)
  · have hf := q_ip h7 hf
    obtain ⟨r8, hr8, hf⟩ := q_bd hf
    refine lp_X15_isTest_L5_492_P (I := q_ws I [(492, r6.2.1), (497, r6.2.2.1), (529, r6.2.2.2.1), (537, r6.2.2.2.2.1), (538, r6.2.2.2.2.2)]) (E := q_ws E []) hd (Nat.le_of_ble_eq_true rfl) (Nat.le_of_ble_eq_true rfl) hq_isSingle hq_isTest hq_isValue hq_isSum 4096 hr8 ?_ ?_
    · intro hz0
      have hf := q_ip hz0 hf
      refine q_Jmrg (lI' := [(492, r8.2.1), (497, r8.2.2.1), (529, r8.2.2.2.1), (537, r8.2.2.2.2.1), (538, r8.2.2.2.2.2)]) (lE' := []) (q_mgw rfl rfl) (q_mgw rfl rfl) ?_
      refine q_blk 1 [] (c' := q_kc (t, r, 0, 529, 539, (q_pE ext), (q_pR rx), L) I E 19 [none] [.int (1 : Int32)] [(492, r8.2.1), (497, r8.2.2.1), (529, r8.2.2.2.1), (537, r8.2.2.2.2.1), (538, r8.2.2.2.2.2)] []) ok_X15_isTest rfl q_cn ?_
      cases hf
      exact q_kri ok_X15_isTest rfl rfl rfl (Nat.le_of_ble_eq_true rfl) (Nat.le_of_ble_eq_true rfl) ⟨rfl, q_hpe (q_pdw [492, 497, 529, 537, 538] rfl rfl) (q_pdw [] rfl rfl)⟩
    · intro hz1
      have hf := q_in (fun h9 => absurd (hz1.symm.trans h9) (by decide)) hf
      refine q_Jmrg (lI' := [(492, r8.2.1), (497, r8.2.2.1), (529, r8.2.2.2.1), (537, r8.2.2.2.2.1), (538, r8.2.2.2.2.2)]) (lE' := []) (q_mgw rfl rfl) (q_mgw rfl rfl) ?_
      refine q_blk 1 [] (c' := q_kc (t, r, 0, 529, 539, (q_pE ext), (q_pR rx), L) I E 13 [none] [.int (0 : Int32)] [(492, r8.2.1), (497, r8.2.2.1), (529, r8.2.2.2.1), (537, r8.2.2.2.2.1), (538, r8.2.2.2.2.2)] []) ok_X15_isTest rfl q_cn ?_
      cases hf
      exact q_kri ok_X15_isTest rfl rfl rfl (Nat.le_of_ble_eq_true rfl) (Nat.le_of_ble_eq_true rfl) ⟨rfl, q_hpe (q_pdw [492, 497, 529, 537, 538] rfl rfl) (q_pdw [] rfl rfl)⟩
  · have hf := q_in h7 hf
    refine q_blk 1 [] (c' := q_kc (t, r, 0, 529, 539, (q_pE ext), (q_pR rx), L) I E 4 [some (.ref 492)] [.int (0 : Int32)] [(492, r6.2.1), (497, r6.2.2.1), (529, r6.2.2.2.1), (537, r6.2.2.2.2.1), (538, r6.2.2.2.2.2)] []) ok_X15_isTest rfl q_cn ?_
    cases hf
    exact q_kri ok_X15_isTest rfl rfl rfl (Nat.le_of_ble_eq_true rfl) (Nat.le_of_ble_eq_true rfl) ⟨rfl, q_hpe (q_pdw [492, 497, 529, 537, 538] rfl rfl) (q_pdw [] rfl rfl)⟩
set_option maxHeartbeats 4000000 in
theorem kq_k_P {g : q_G} {t : Nat} {r : Nat} {ext : Nat → q_Sh} {rx : Nat → Nat → Option Nat} {L : Nat → Nat → Int64} : ∀ n : Nat, (∀ {I : Nat → Nat → Int32} {E : Nat → Nat → Option Nat} {r0 : Bool × (Nat → Int32) × (Nat → Int32) × (Nat → Int32) × (Nat → Int32) × (Nat → Int32)}, k_isValue n ((I 492)) ((I 493)) ((I 494)) ((I 495)) ((I 496)) ((I 497)) ((I 529)) ((I 537)) ((I 538)) = some r0 → q_Ct g m_X15_isValue (30 * n + 30) 0 0 [] [.ref 492] (q_hp (t, r, 0, 529, 539, (q_pE ext), (q_pR rx), L) I E) (fun o h' => o = .inl (some (.int (q_bz r0.1))) ∧ h' = q_hp (t, r, 0, 529, 539, (q_pE ext), (q_pR rx), L) (q_ws I [(492, r0.2.1), (497, r0.2.2.1), (529, r0.2.2.2.1), (537, r0.2.2.2.2.1), (538, r0.2.2.2.2.2)]) (q_ws E []))) ∧ (∀ {I : Nat → Nat → Int32} {E : Nat → Nat → Option Nat} {r0 : Bool × (Nat → Int32) × (Nat → Int32) × (Nat → Int32) × (Nat → Int32) × (Nat → Int32)}, k_isSum n ((I 492)) ((I 493)) ((I 494)) ((I 495)) ((I 496)) ((I 497)) ((I 529)) ((I 537)) ((I 538)) = some r0 → q_Ct g m_X15_isSum (30 * n + 30) 0 0 [] [.ref 492] (q_hp (t, r, 0, 529, 539, (q_pE ext), (q_pR rx), L) I E) (fun o h' => o = .inl (some (.int (q_bz r0.1))) ∧ h' = q_hp (t, r, 0, 529, 539, (q_pE ext), (q_pR rx), L) (q_ws I [(492, r0.2.1), (497, r0.2.2.1), (529, r0.2.2.2.1), (537, r0.2.2.2.2.1), (538, r0.2.2.2.2.2)]) (q_ws E []))) ∧ (∀ {I : Nat → Nat → Int32} {E : Nat → Nat → Option Nat} {r0 : Bool × (Nat → Int32) × (Nat → Int32) × (Nat → Int32) × (Nat → Int32) × (Nat → Int32)}, k_isSingle n ((I 492)) ((I 493)) ((I 494)) ((I 495)) ((I 496)) ((I 497)) ((I 529)) ((I 537)) ((I 538)) = some r0 → q_Ct g m_X15_isSingle (30 * n + 30) 0 0 [] [.ref 492] (q_hp (t, r, 0, 529, 539, (q_pE ext), (q_pR rx), L) I E) (fun o h' => o = .inl (some (.int (q_bz r0.1))) ∧ h' = q_hp (t, r, 0, 529, 539, (q_pE ext), (q_pR rx), L) (q_ws I [(492, r0.2.1), (497, r0.2.2.1), (529, r0.2.2.2.1), (537, r0.2.2.2.2.1), (538, r0.2.2.2.2.2)]) (q_ws E []))) ∧ (∀ {I : Nat → Nat → Int32} {E : Nat → Nat → Option Nat} {r0 : Bool × (Nat → Int32) × (Nat → Int32) × (Nat → Int32) × (Nat → Int32) × (Nat → Int32)}, k_isTest n ((I 492)) ((I 493)) ((I 494)) ((I 495)) ((I 496)) ((I 497)) ((I 529)) ((I 537)) ((I 538)) = some r0 → q_Ct g m_X15_isTest (30 * n + 30) 0 0 [] [.ref 492] (q_hp (t, r, 0, 529, 539, (q_pE ext), (q_pR rx), L) I E) (fun o h' => o = .inl (some (.int (q_bz r0.1))) ∧ h' = q_hp (t, r, 0, 529, 539, (q_pE ext), (q_pR rx), L) (q_ws I [(492, r0.2.1), (497, r0.2.2.1), (529, r0.2.2.2.1), (537, r0.2.2.2.2.1), (538, r0.2.2.2.2.2)]) (q_ws E []))) := by
  intro n
  induction n with
  | zero =>
    refine ⟨?_, ?_, ?_, ?_⟩
    · intro I E r0 hf
      exact absurd (hf : none = some r0) (by intro h; cases h)
    · intro I E r0 hf
      exact absurd (hf : none = some r0) (by intro h; cases h)
    · intro I E r0 hf
      exact absurd (hf : none = some r0) (by intro h; cases h)
    · intro I E r0 hf
      exact absurd (hf : none = some r0) (by intro h; cases h)
  | succ n ih =>
    obtain ⟨i0, i1, i2, i3⟩ := ih
    refine ⟨?_, ?_, ?_, ?_⟩
    · intro I E r0 hf
      exact ct_X15_isValue_492_P (dR := 30 * n + 30) (d := 30 * (n + 1) + 30) (r_isValue := k_isValue n) (r_isSum := k_isSum n) (by omega) i0 i1 hf
    · intro I E r0 hf
      exact ct_X15_isSum_492_P (dR := 30 * n + 30) (d := 30 * (n + 1) + 30) (r_isValue := k_isValue n) (r_isSum := k_isSum n) (by omega) i0 i1 hf
    · intro I E r0 hf
      exact ct_X15_isSingle_492_P (dR := 30 * n + 30) (d := 30 * (n + 1) + 30) (r_isSingle := k_isSingle n) (r_isTest := k_isTest n) (r_isValue := k_isValue n) (r_isSum := k_isSum n) (by omega) i2 i3 i0 i1 hf
    · intro I E r0 hf
      exact ct_X15_isTest_492_P (dR := 30 * n + 30) (d := 30 * (n + 1) + 30) (r_isSingle := k_isSingle n) (r_isTest := k_isTest n) (r_isValue := k_isValue n) (r_isSum := k_isSum n) (by omega) i2 i3 i0 i1 hf
theorem kq_isValue {g : q_G} {t : Nat} {r : Nat} {ext : Nat → q_Sh} {rx : Nat → Nat → Option Nat} {L : Nat → Nat → Int64} (n : Nat) : (∀ {I : Nat → Nat → Int32} {E : Nat → Nat → Option Nat} {r0 : Bool × (Nat → Int32) × (Nat → Int32) × (Nat → Int32) × (Nat → Int32) × (Nat → Int32)}, k_isValue n ((I 492)) ((I 493)) ((I 494)) ((I 495)) ((I 496)) ((I 497)) ((I 529)) ((I 537)) ((I 538)) = some r0 → q_Ct g m_X15_isValue (30 * n + 30) 0 0 [] [.ref 492] (q_hp (t, r, 0, 529, 539, (q_pE ext), (q_pR rx), L) I E) (fun o h' => o = .inl (some (.int (q_bz r0.1))) ∧ h' = q_hp (t, r, 0, 529, 539, (q_pE ext), (q_pR rx), L) (q_ws I [(492, r0.2.1), (497, r0.2.2.1), (529, r0.2.2.2.1), (537, r0.2.2.2.2.1), (538, r0.2.2.2.2.2)]) (q_ws E []))) := (kq_k_P n).1
theorem kq_isSum {g : q_G} {t : Nat} {r : Nat} {ext : Nat → q_Sh} {rx : Nat → Nat → Option Nat} {L : Nat → Nat → Int64} (n : Nat) : (∀ {I : Nat → Nat → Int32} {E : Nat → Nat → Option Nat} {r0 : Bool × (Nat → Int32) × (Nat → Int32) × (Nat → Int32) × (Nat → Int32) × (Nat → Int32)}, k_isSum n ((I 492)) ((I 493)) ((I 494)) ((I 495)) ((I 496)) ((I 497)) ((I 529)) ((I 537)) ((I 538)) = some r0 → q_Ct g m_X15_isSum (30 * n + 30) 0 0 [] [.ref 492] (q_hp (t, r, 0, 529, 539, (q_pE ext), (q_pR rx), L) I E) (fun o h' => o = .inl (some (.int (q_bz r0.1))) ∧ h' = q_hp (t, r, 0, 529, 539, (q_pE ext), (q_pR rx), L) (q_ws I [(492, r0.2.1), (497, r0.2.2.1), (529, r0.2.2.2.1), (537, r0.2.2.2.2.1), (538, r0.2.2.2.2.2)]) (q_ws E []))) := (kq_k_P n).2.1
theorem kq_isSingle {g : q_G} {t : Nat} {r : Nat} {ext : Nat → q_Sh} {rx : Nat → Nat → Option Nat} {L : Nat → Nat → Int64} (n : Nat) : (∀ {I : Nat → Nat → Int32} {E : Nat → Nat → Option Nat} {r0 : Bool × (Nat → Int32) × (Nat → Int32) × (Nat → Int32) × (Nat → Int32) × (Nat → Int32)}, k_isSingle n ((I 492)) ((I 493)) ((I 494)) ((I 495)) ((I 496)) ((I 497)) ((I 529)) ((I 537)) ((I 538)) = some r0 → q_Ct g m_X15_isSingle (30 * n + 30) 0 0 [] [.ref 492] (q_hp (t, r, 0, 529, 539, (q_pE ext), (q_pR rx), L) I E) (fun o h' => o = .inl (some (.int (q_bz r0.1))) ∧ h' = q_hp (t, r, 0, 529, 539, (q_pE ext), (q_pR rx), L) (q_ws I [(492, r0.2.1), (497, r0.2.2.1), (529, r0.2.2.2.1), (537, r0.2.2.2.2.1), (538, r0.2.2.2.2.2)]) (q_ws E []))) := (kq_k_P n).2.2.1
theorem kq_isTest {g : q_G} {t : Nat} {r : Nat} {ext : Nat → q_Sh} {rx : Nat → Nat → Option Nat} {L : Nat → Nat → Int64} (n : Nat) : (∀ {I : Nat → Nat → Int32} {E : Nat → Nat → Option Nat} {r0 : Bool × (Nat → Int32) × (Nat → Int32) × (Nat → Int32) × (Nat → Int32) × (Nat → Int32)}, k_isTest n ((I 492)) ((I 493)) ((I 494)) ((I 495)) ((I 496)) ((I 497)) ((I 529)) ((I 537)) ((I 538)) = some r0 → q_Ct g m_X15_isTest (30 * n + 30) 0 0 [] [.ref 492] (q_hp (t, r, 0, 529, 539, (q_pE ext), (q_pR rx), L) I E) (fun o h' => o = .inl (some (.int (q_bz r0.1))) ∧ h' = q_hp (t, r, 0, 529, 539, (q_pE ext), (q_pR rx), L) (q_ws I [(492, r0.2.1), (497, r0.2.2.1), (529, r0.2.2.2.1), (537, r0.2.2.2.2.1), (538, r0.2.2.2.2.2)]) (q_ws E []))) := (kq_k_P n).2.2.2
set_option maxHeartbeats 4000000 in
theorem ct_X15_isRope_492_P {g : q_G} {t : Nat} {r : Nat} {ext : Nat → q_Sh} {rx : Nat → Nat → Option Nat} {L : Nat → Nat → Int64} {d : Nat} (hd : 4 ≤ d)  {I : Nat → Nat → Int32} {E : Nat → Nat → Option Nat} {r0 : Bool × (Nat → Int32) × (Nat → Int32)} (hf : f_X15_isRope (I 492) (I 494) (I 497) = some r0) : q_Ct g m_X15_isRope d 0 0 [] [.ref 492] (q_hp (t, r, 0, 529, 539, (q_pE ext), (q_pR rx), L) I E) (fun o h' => o = .inl (some (.int (q_bz r0.1))) ∧ h' = q_hp (t, r, 0, 529, 539, (q_pE ext), (q_pR rx), L) (q_ws I [(492, r0.2.1), (497, r0.2.2)]) (q_ws E [])) := by
  rw [f_X15_isRope] at hf
  refine q_Ct_of ok_X15_isRope (Nat.le_of_ble_eq_true rfl) ?_ _ rfl rfl
  change q_J g m_X15_isRope d 0 0 _ [] _ 0 0 (q_kc (t, r, 0, 529, 539, (q_pE ext), (q_pR rx), L) I E 0 [some (.ref 492)] [] [] [])
  refine q_blk 2 [] (c' := q_kc (t, r, 0, 529, 539, (q_pE ext), (q_pR rx), L) I E 2 [some (.ref 492)] [.int (8 : Int32), .ref 492] [] []) ok_X15_isRope rfl q_cn ?_
  obtain ⟨r1, hr1, hf⟩ := q_bd hf
  refine q_kV (M2 := m_X15_eat) (As := [.int (8 : Int32)]) (b := 492) (v2 := some (.int (q_bz r1.1))) ok_X15_isRope ok_X15_eat cv_X15_eat (ct_X15_eat_492_P (d := 2) (Nat.le_refl _) hr1) rfl rfl (Or.inl rfl) rfl rfl rfl rfl (Nat.le_trans (Nat.le_of_ble_eq_true rfl) hd) (Nat.le_of_ble_eq_true rfl) (Nat.le_of_ble_eq_true rfl) (Nat.le_of_ble_eq_true rfl) (fun x hx => absurd hx List.not_mem_nil) (q_nmL0 _) (q_nmS0 _) rfl (pos' := 3) (st' := [.int (q_bz r1.1)]) (lI' := [(492, r1.2)]) (lE' := []) rfl rfl (q_mgw rfl rfl) rfl ?_
  refine q_blf 0 [] (a := q_kc (t, r, 0, 529, 539, (q_pE ext), (q_pR rx), L) I E 11 [some (.ref 492)] [] [(492, r1.2)] []) (b := q_kc (t, r, 0, 529, 539, (q_pE ext), (q_pR rx), L) I E 4 [some (.ref 492)] [] [(492, r1.2)] []) (P := (q_bz r1.1) = 0) ok_X15_isRope rfl q_cn (fun h2 => ?_) (fun h2 => ?_)
  · have hf := q_ip h2 hf
    refine q_blk 1 [] (c' := q_kc (t, r, 0, 529, 539, (q_pE ext), (q_pR rx), L) I E 12 [some (.ref 492)] [.int (0 : Int32)] [(492, r1.2)] []) ok_X15_isRope rfl q_cn ?_
    cases hf
    exact q_kri ok_X15_isRope rfl rfl rfl (Nat.le_of_ble_eq_true rfl) (Nat.le_of_ble_eq_true rfl) ⟨rfl, q_hpe (q_pdw [492, 497] rfl rfl) (q_pdw [] rfl rfl)⟩
  · have hf := q_in h2 hf
    refine q_blk 3 [] (c' := q_kc (t, r, 0, 529, 539, (q_pE ext), (q_pR rx), L) I E 7 [some (.ref 492)] [.int (9 : Int32), .int (41 : Int32), .ref 492] [(492, r1.2)] []) ok_X15_isRope rfl q_cn ?_
    obtain ⟨r3, hr3, hf⟩ := q_bd hf
    refine q_kV (M2 := m_X15_eatAs) (As := [.int (41 : Int32), .int (9 : Int32)]) (b := 492) (v2 := some (.int (q_bz r3.1))) ok_X15_isRope ok_X15_eatAs cv_X15_eatAs (ct_X15_eatAs_492_P (d := 3) (Nat.le_refl _) hr3) rfl rfl (Or.inl rfl) rfl rfl rfl rfl (Nat.le_trans (Nat.le_of_ble_eq_true rfl) hd) (Nat.le_of_ble_eq_true rfl) (Nat.le_of_ble_eq_true rfl) (Nat.le_of_ble_eq_true rfl) (fun x hx => absurd hx List.not_mem_nil) (q_nmL0 _) (q_nmS0 _) rfl (pos' := 8) (st' := [.int (q_bz r3.1)]) (lI' := [(492, r3.2.1), (497, r3.2.2)]) (lE' := []) rfl rfl (q_mgw rfl rfl) rfl ?_
    refine q_blf 0 [] (a := q_kc (t, r, 0, 529, 539, (q_pE ext), (q_pR rx), L) I E 11 [some (.ref 492)] [] [(492, r3.2.1), (497, r3.2.2)] []) (b := q_kc (t, r, 0, 529, 539, (q_pE ext), (q_pR rx), L) I E 9 [some (.ref 492)] [] [(492, r3.2.1), (497, r3.2.2)] []) (P := (q_bz r3.1) = 0) ok_X15_isRope rfl q_cn (fun h4 => ?_) (fun h4 => ?_)
    · have hf := q_ip h4 hf
      refine q_blk 1 [] (c' := q_kc (t, r, 0, 529, 539, (q_pE ext), (q_pR rx), L) I E 12 [some (.ref 492)] [.int (0 : Int32)] [(492, r3.2.1), (497, r3.2.2)] []) ok_X15_isRope rfl q_cn ?_
      cases hf
      exact q_kri ok_X15_isRope rfl rfl rfl (Nat.le_of_ble_eq_true rfl) (Nat.le_of_ble_eq_true rfl) ⟨rfl, q_hpe (q_pdw [492, 497] rfl rfl) (q_pdw [] rfl rfl)⟩
    · have hf := q_in h4 hf
      refine q_blk 2 [] (c' := q_kc (t, r, 0, 529, 539, (q_pE ext), (q_pR rx), L) I E 12 [some (.ref 492)] [.int (1 : Int32)] [(492, r3.2.1), (497, r3.2.2)] []) ok_X15_isRope rfl q_cn ?_
      cases hf
      exact q_kri ok_X15_isRope rfl rfl rfl (Nat.le_of_ble_eq_true rfl) (Nat.le_of_ble_eq_true rfl) ⟨rfl, q_hpe (q_pdw [492, 497] rfl rfl) (q_pdw [] rfl rfl)⟩
set_option maxHeartbeats 4000000 in
theorem ct_X15_isRest_492_P {g : q_G} {t : Nat} {r : Nat} {ext : Nat → q_Sh} {rx : Nat → Nat → Option Nat} {L : Nat → Nat → Int64} {d : Nat} (hd : 398 ≤ d)  {I : Nat → Nat → Int32} {E : Nat → Nat → Option Nat} {x1 : Int32} {r0 : Bool × (Nat → Int32) × (Nat → Int32) × (Nat → Int32) × (Nat → Int32) × (Nat → Int32)} (hf : f_X15_isRest (I 492) (I 493) (I 494) (I 495) (I 496) (I 497) (I 529) (I 537) (I 538) x1 = some r0) : q_Ct g m_X15_isRest d 0 0 [] [.ref 492, .int x1] (q_hp (t, r, 0, 529, 539, (q_pE ext), (q_pR rx), L) I E) (fun o h' => o = .inl (some (.int (q_bz r0.1))) ∧ h' = q_hp (t, r, 0, 529, 539, (q_pE ext), (q_pR rx), L) (q_ws I [(492, r0.2.1), (497, r0.2.2.1), (529, r0.2.2.2.1), (537, r0.2.2.2.2.1), (538, r0.2.2.2.2.2)]) (q_ws E [])) := by
  rw [f_X15_isRest] at hf
  refine q_Ct_of ok_X15_isRest (Nat.le_of_ble_eq_true rfl) ?_ _ rfl rfl
  change q_J g m_X15_isRest d 0 0 _ [] _ 0 0 (q_kc (t, r, 0, 529, 539, (q_pE ext), (q_pR rx), L) I E 0 [some (.ref 492), some (.int x1)] [] [] [])
  refine q_blk 1 [] (c' := q_kc (t, r, 0, 529, 539, (q_pE ext), (q_pR rx), L) I E 1 [some (.ref 492), some (.int x1)] [.int x1] [] []) ok_X15_isRest rfl q_cn ?_
  refine q_ksw [2, 57, 57, 22, 57, 57, 38, 41] ok_X15_isRest rfl (dp := 57) rfl (fun ix t9 ht9 hx9 => ?_) (fun hx9 => ?_) (by decide) (by decide)
  · match ix, ht9 with
    | 0, ht9 =>
      have hx9 : x1 = 4 := hx9
      cases ht9
      have hf := q_ip hx9 hf
      refine q_blk 2 [] (c' := q_kc (t, r, 0, 529, 539, (q_pE ext), (q_pR rx), L) I E 4 [some (.ref 492), some (.int x1)] [.int (5 : Int32), .ref 492] [] []) ok_X15_isRest rfl q_cn ?_
      obtain ⟨r1, hr1, hf⟩ := q_bd hf
      refine q_kV (M2 := m_X15_eat) (As := [.int (5 : Int32)]) (b := 492) (v2 := some (.int (q_bz r1.1))) ok_X15_isRest ok_X15_eat cv_X15_eat (ct_X15_eat_492_P (d := 2) (Nat.le_refl _) hr1) rfl rfl (Or.inl rfl) rfl rfl rfl rfl (Nat.le_trans (Nat.le_of_ble_eq_true rfl) hd) (Nat.le_of_ble_eq_true rfl) (Nat.le_of_ble_eq_true rfl) (Nat.le_of_ble_eq_true rfl) (fun x hx => absurd hx List.not_mem_nil) (q_nmL0 _) (q_nmS0 _) rfl (pos' := 5) (st' := [.int (q_bz r1.1)]) (lI' := [(492, r1.2)]) (lE' := []) rfl rfl (q_mgw rfl rfl) rfl ?_
      refine q_blf 0 [] (a := q_kc (t, r, 0, 529, 539, (q_pE ext), (q_pR rx), L) I E 20 [some (.ref 492), some (.int x1)] [] [(492, r1.2)] []) (b := q_kc (t, r, 0, 529, 539, (q_pE ext), (q_pR rx), L) I E 6 [some (.ref 492), some (.int x1)] [] [(492, r1.2)] []) (P := (q_bz r1.1) = 0) ok_X15_isRest rfl q_cn (fun h2 => ?_) (fun h2 => ?_)
      · have hf := q_ip h2 hf
        refine q_blk 1 [] (c' := q_kc (t, r, 0, 529, 539, (q_pE ext), (q_pR rx), L) I E 21 [some (.ref 492), some (.int x1)] [.int (0 : Int32)] [(492, r1.2)] []) ok_X15_isRest rfl q_cn ?_
        cases hf
        exact q_kri ok_X15_isRest rfl rfl rfl (Nat.le_of_ble_eq_true rfl) (Nat.le_of_ble_eq_true rfl) ⟨rfl, q_hpe (q_pdw [492, 497, 529, 537, 538] rfl rfl) (q_pdw [] rfl rfl)⟩
      · have hf := q_in h2 hf
        refine q_blk 1 [] (c' := q_kc (t, r, 0, 529, 539, (q_pE ext), (q_pR rx), L) I E 7 [some (.ref 492), some (.int x1)] [.ref 492] [(492, r1.2)] []) ok_X15_isRest rfl q_cn ?_
        obtain ⟨r3, hr3, hf⟩ := q_bd hf
        refine q_kV (M2 := m_X15_isSum) (As := []) (b := 492) (v2 := some (.int (q_bz r3.1))) ok_X15_isRest ok_X15_isSum cv_X15_isSum (ct_X15_isSum_492_P (dR := 390) (d := 397) (r_isValue := k_isValue 12) (r_isSum := k_isSum 12) (Nat.le_of_ble_eq_true rfl) (kq_isValue 12) (kq_isSum 12) hr3) rfl rfl (Or.inl rfl) rfl rfl rfl rfl (Nat.le_trans (Nat.le_of_ble_eq_true rfl) hd) (Nat.le_of_ble_eq_true rfl) (Nat.le_of_ble_eq_true rfl) (Nat.le_of_ble_eq_true rfl) (fun x hx => absurd hx List.not_mem_nil) (q_nmL0 _) (q_nmS0 _) rfl (pos' := 8) (st' := [.int (q_bz r3.1)]) (lI' := [(492, r3.2.1), (497, r3.2.2.1), (529, r3.2.2.2.1), (537, r3.2.2.2.2.1), (538, r3.2.2.2.2.2)]) (lE' := []) rfl rfl (q_mgw rfl rfl) rfl ?_
        refine q_blf 0 [] (a := q_kc (t, r, 0, 529, 539, (q_pE ext), (q_pR rx), L) I E 20 [some (.ref 492), some (.int x1)] [] [(492, r3.2.1), (497, r3.2.2.1), (529, r3.2.2.2.1), (537, r3.2.2.2.2.1), (538, r3.2.2.2.2.2)] []) (b := q_kc (t, r, 0, 529, 539, (q_pE ext), (q_pR rx), L) I E 9 [some (.ref 492), some (.int x1)] [] [(492, r3.2.1), (497, r3.2.2.1), (529, r3.2.2.2.1), (537, r3.2.2.2.2.1), (538, r3.2.2.2.2.2)] []) (P := (q_bz r3.1) = 0) ok_X15_isRest rfl q_cn (fun h4 => ?_) (fun h4 => ?_)
        · have hf := q_ip h4 hf
          refine q_blk 1 [] (c' := q_kc (t, r, 0, 529, 539, (q_pE ext), (q_pR rx), L) I E 21 [some (.ref 492), some (.int x1)] [.int (0 : Int32)] [(492, r3.2.1), (497, r3.2.2.1), (529, r3.2.2.2.1), (537, r3.2.2.2.2.1), (538, r3.2.2.2.2.2)] []) ok_X15_isRest rfl q_cn ?_
          cases hf
          exact q_kri ok_X15_isRest rfl rfl rfl (Nat.le_of_ble_eq_true rfl) (Nat.le_of_ble_eq_true rfl) ⟨rfl, q_hpe (q_pdw [492, 497, 529, 537, 538] rfl rfl) (q_pdw [] rfl rfl)⟩
        · have hf := q_in h4 hf
          refine q_blk 2 [] (c' := q_kc (t, r, 0, 529, 539, (q_pE ext), (q_pR rx), L) I E 11 [some (.ref 492), some (.int x1)] [.int (6 : Int32), .ref 492] [(492, r3.2.1), (497, r3.2.2.1), (529, r3.2.2.2.1), (537, r3.2.2.2.2.1), (538, r3.2.2.2.2.2)] []) ok_X15_isRest rfl q_cn ?_
          obtain ⟨r5, hr5, hf⟩ := q_bd hf
          refine q_kV (M2 := m_X15_eat) (As := [.int (6 : Int32)]) (b := 492) (v2 := some (.int (q_bz r5.1))) ok_X15_isRest ok_X15_eat cv_X15_eat (ct_X15_eat_492_P (d := 2) (Nat.le_refl _) hr5) rfl rfl (Or.inl rfl) rfl rfl rfl rfl (Nat.le_trans (Nat.le_of_ble_eq_true rfl) hd) (Nat.le_of_ble_eq_true rfl) (Nat.le_of_ble_eq_true rfl) (Nat.le_of_ble_eq_true rfl) (fun x hx => absurd hx List.not_mem_nil) (q_nmL0 _) (q_nmS0 _) rfl (pos' := 12) (st' := [.int (q_bz r5.1)]) (lI' := [(492, r5.2), (497, r3.2.2.1), (529, r3.2.2.2.1), (537, r3.2.2.2.2.1), (538, r3.2.2.2.2.2)]) (lE' := []) rfl rfl (q_mgw rfl rfl) rfl ?_
          refine q_blf 0 [] (a := q_kc (t, r, 0, 529, 539, (q_pE ext), (q_pR rx), L) I E 20 [some (.ref 492), some (.int x1)] [] [(492, r5.2), (497, r3.2.2.1), (529, r3.2.2.2.1), (537, r3.2.2.2.2.1), (538, r3.2.2.2.2.2)] []) (b := q_kc (t, r, 0, 529, 539, (q_pE ext), (q_pR rx), L) I E 13 [some (.ref 492), some (.int x1)] [] [(492, r5.2), (497, r3.2.2.1), (529, r3.2.2.2.1), (537, r3.2.2.2.2.1), (538, r3.2.2.2.2.2)] []) (P := (q_bz r5.1) = 0) ok_X15_isRest rfl q_cn (fun h6 => ?_) (fun h6 => ?_)
          · have hf := q_ip h6 hf
            refine q_blk 1 [] (c' := q_kc (t, r, 0, 529, 539, (q_pE ext), (q_pR rx), L) I E 21 [some (.ref 492), some (.int x1)] [.int (0 : Int32)] [(492, r5.2), (497, r3.2.2.1), (529, r3.2.2.2.1), (537, r3.2.2.2.2.1), (538, r3.2.2.2.2.2)] []) ok_X15_isRest rfl q_cn ?_
            cases hf
            exact q_kri ok_X15_isRest rfl rfl rfl (Nat.le_of_ble_eq_true rfl) (Nat.le_of_ble_eq_true rfl) ⟨rfl, q_hpe (q_pdw [492, 497, 529, 537, 538] rfl rfl) (q_pdw [] rfl rfl)⟩
          · have hf := q_in h6 hf
            refine q_blk 3 [] (c' := q_kc (t, r, 0, 529, 539, (q_pE ext), (q_pR rx), L) I E 16 [some (.ref 492), some (.int x1)] [.int (9 : Int32), .int (41 : Int32), .ref 492] [(492, r5.2), (497, r3.2.2.1), (529, r3.2.2.2.1), (537, r3.2.2.2.2.1), (538, r3.2.2.2.2.2)] []) ok_X15_isRest rfl q_cn ?_
            obtain ⟨r7, hr7, hf⟩ := q_bd hf
            refine q_kV (M2 := m_X15_eatAs) (As := [.int (41 : Int32), .int (9 : Int32)]) (b := 492) (v2 := some (.int (q_bz r7.1))) ok_X15_isRest ok_X15_eatAs cv_X15_eatAs (ct_X15_eatAs_492_P (d := 3) (Nat.le_refl _) hr7) rfl rfl (Or.inl rfl) rfl rfl rfl rfl (Nat.le_trans (Nat.le_of_ble_eq_true rfl) hd) (Nat.le_of_ble_eq_true rfl) (Nat.le_of_ble_eq_true rfl) (Nat.le_of_ble_eq_true rfl) (fun x hx => absurd hx List.not_mem_nil) (q_nmL0 _) (q_nmS0 _) rfl (pos' := 17) (st' := [.int (q_bz r7.1)]) (lI' := [(492, r7.2.1), (497, r7.2.2), (529, r3.2.2.2.1), (537, r3.2.2.2.2.1), (538, r3.2.2.2.2.2)]) (lE' := []) rfl rfl (q_mgw rfl rfl) rfl ?_
            refine q_blf 0 [] (a := q_kc (t, r, 0, 529, 539, (q_pE ext), (q_pR rx), L) I E 20 [some (.ref 492), some (.int x1)] [] [(492, r7.2.1), (497, r7.2.2), (529, r3.2.2.2.1), (537, r3.2.2.2.2.1), (538, r3.2.2.2.2.2)] []) (b := q_kc (t, r, 0, 529, 539, (q_pE ext), (q_pR rx), L) I E 18 [some (.ref 492), some (.int x1)] [] [(492, r7.2.1), (497, r7.2.2), (529, r3.2.2.2.1), (537, r3.2.2.2.2.1), (538, r3.2.2.2.2.2)] []) (P := (q_bz r7.1) = 0) ok_X15_isRest rfl q_cn (fun h8 => ?_) (fun h8 => ?_)
            · have hf := q_ip h8 hf
              refine q_blk 1 [] (c' := q_kc (t, r, 0, 529, 539, (q_pE ext), (q_pR rx), L) I E 21 [some (.ref 492), some (.int x1)] [.int (0 : Int32)] [(492, r7.2.1), (497, r7.2.2), (529, r3.2.2.2.1), (537, r3.2.2.2.2.1), (538, r3.2.2.2.2.2)] []) ok_X15_isRest rfl q_cn ?_
              cases hf
              exact q_kri ok_X15_isRest rfl rfl rfl (Nat.le_of_ble_eq_true rfl) (Nat.le_of_ble_eq_true rfl) ⟨rfl, q_hpe (q_pdw [492, 497, 529, 537, 538] rfl rfl) (q_pdw [] rfl rfl)⟩
            · have hf := q_in h8 hf
              refine q_blk 2 [] (c' := q_kc (t, r, 0, 529, 539, (q_pE ext), (q_pR rx), L) I E 21 [some (.ref 492), some (.int x1)] [.int (1 : Int32)] [(492, r7.2.1), (497, r7.2.2), (529, r3.2.2.2.1), (537, r3.2.2.2.2.1), (538, r3.2.2.2.2.2)] []) ok_X15_isRest rfl q_cn ?_
              cases hf
              exact q_kri ok_X15_isRest rfl rfl rfl (Nat.le_of_ble_eq_true rfl) (Nat.le_of_ble_eq_true rfl) ⟨rfl, q_hpe (q_pdw [492, 497, 529, 537, 538] rfl rfl) (q_pdw [] rfl rfl)⟩
    | 1, ht9 =>
      have hx9 : x1 = 5 := hx9
      cases ht9
      have hf := q_in (fun hz9 => absurd (hx9.symm.trans hz9) (by decide)) hf
      have hf := q_ip hx9 hf
      refine q_blk 1 [] (c' := q_kc (t, r, 0, 529, 539, (q_pE ext), (q_pR rx), L) I E 58 [some (.ref 492), some (.int x1)] [.int (1 : Int32)] [] []) ok_X15_isRest rfl q_cn ?_
      cases hf
      exact q_kri ok_X15_isRest rfl rfl rfl (Nat.le_of_ble_eq_true rfl) (Nat.le_of_ble_eq_true rfl) ⟨rfl, q_hpe (q_pdw [492, 497, 529, 537, 538] rfl rfl) (q_pdw [] rfl rfl)⟩
    | 2, ht9 =>
      have hx9 : x1 = 6 := hx9
      cases ht9
      have hf := q_in (fun hz9 => absurd (hx9.symm.trans hz9) (by decide)) hf
      have hf := q_in (fun hz9 => absurd (hx9.symm.trans hz9) (by decide)) hf
      have hf := q_ip hx9 hf
      refine q_blk 1 [] (c' := q_kc (t, r, 0, 529, 539, (q_pE ext), (q_pR rx), L) I E 58 [some (.ref 492), some (.int x1)] [.int (1 : Int32)] [] []) ok_X15_isRest rfl q_cn ?_
      cases hf
      exact q_kri ok_X15_isRest rfl rfl rfl (Nat.le_of_ble_eq_true rfl) (Nat.le_of_ble_eq_true rfl) ⟨rfl, q_hpe (q_pdw [492, 497, 529, 537, 538] rfl rfl) (q_pdw [] rfl rfl)⟩
    | 3, ht9 =>
      have hx9 : x1 = 7 := hx9
      cases ht9
      have hf := q_in (fun hz9 => absurd (hx9.symm.trans hz9) (by decide)) hf
      have hf := q_in (fun hz9 => absurd (hx9.symm.trans hz9) (by decide)) hf
      have hf := q_in (fun hz9 => absurd (hx9.symm.trans hz9) (by decide)) hf
      have hf := q_ip hx9 hf
      refine q_blk 1 [] (c' := q_kc (t, r, 0, 529, 539, (q_pE ext), (q_pR rx), L) I E 23 [some (.ref 492), some (.int x1)] [.ref 492] [] []) ok_X15_isRest rfl q_cn ?_
      obtain ⟨r9, hr9, hf⟩ := q_bd hf
      refine q_kV (M2 := m_X15_isRope) (As := []) (b := 492) (v2 := some (.int (q_bz r9.1))) ok_X15_isRest ok_X15_isRope cv_X15_isRope (ct_X15_isRope_492_P (d := 4) (Nat.le_refl _) hr9) rfl rfl (Or.inl rfl) rfl rfl rfl rfl (Nat.le_trans (Nat.le_of_ble_eq_true rfl) hd) (Nat.le_of_ble_eq_true rfl) (Nat.le_of_ble_eq_true rfl) (Nat.le_of_ble_eq_true rfl) (fun x hx => absurd hx List.not_mem_nil) (q_nmL0 _) (q_nmS0 _) rfl (pos' := 24) (st' := [.int (q_bz r9.1)]) (lI' := [(492, r9.2.1), (497, r9.2.2)]) (lE' := []) rfl rfl (q_mgw rfl rfl) rfl ?_
      refine q_blf 0 [] (a := q_kc (t, r, 0, 529, 539, (q_pE ext), (q_pR rx), L) I E 36 [some (.ref 492), some (.int x1)] [] [(492, r9.2.1), (497, r9.2.2)] []) (b := q_kc (t, r, 0, 529, 539, (q_pE ext), (q_pR rx), L) I E 25 [some (.ref 492), some (.int x1)] [] [(492, r9.2.1), (497, r9.2.2)] []) (P := (q_bz r9.1) = 0) ok_X15_isRest rfl q_cn (fun h10 => ?_) (fun h10 => ?_)
      · have hf := q_ip h10 hf
        refine q_blk 1 [] (c' := q_kc (t, r, 0, 529, 539, (q_pE ext), (q_pR rx), L) I E 37 [some (.ref 492), some (.int x1)] [.int (0 : Int32)] [(492, r9.2.1), (497, r9.2.2)] []) ok_X15_isRest rfl q_cn ?_
        cases hf
        exact q_kri ok_X15_isRest rfl rfl rfl (Nat.le_of_ble_eq_true rfl) (Nat.le_of_ble_eq_true rfl) ⟨rfl, q_hpe (q_pdw [492, 497, 529, 537, 538] rfl rfl) (q_pdw [] rfl rfl)⟩
      · have hf := q_in h10 hf
        refine q_blk 2 [] (c' := q_kc (t, r, 0, 529, 539, (q_pE ext), (q_pR rx), L) I E 27 [some (.ref 492), some (.int x1)] [.int (9 : Int32), .ref 492] [(492, r9.2.1), (497, r9.2.2)] []) ok_X15_isRest rfl q_cn ?_
        obtain ⟨r11, hr11, hf⟩ := q_bd hf
        refine q_kV (M2 := m_X15_eat) (As := [.int (9 : Int32)]) (b := 492) (v2 := some (.int (q_bz r11.1))) ok_X15_isRest ok_X15_eat cv_X15_eat (ct_X15_eat_492_P (d := 2) (Nat.le_refl _) hr11) rfl rfl (Or.inl rfl) rfl rfl rfl rfl (Nat.le_trans (Nat.le_of_ble_eq_true rfl) hd) (Nat.le_of_ble_eq_true rfl) (Nat.le_of_ble_eq_true rfl) (Nat.le_of_ble_eq_true rfl) (fun x hx => absurd hx List.not_mem_nil) (q_nmL0 _) (q_nmS0 _) rfl (pos' := 28) (st' := [.int (q_bz r11.1)]) (lI' := [(492, r11.2), (497, r9.2.2)]) (lE' := []) rfl rfl (q_mgw rfl rfl) rfl ?_
        refine q_blf 0 [] (a := q_kc (t, r, 0, 529, 539, (q_pE ext), (q_pR rx), L) I E 36 [some (.ref 492), some (.int x1)] [] [(492, r11.2), (497, r9.2.2)] []) (b := q_kc (t, r, 0, 529, 539, (q_pE ext), (q_pR rx), L) I E 29 [some (.ref 492), some (.int x1)] [] [(492, r11.2), (497, r9.2.2)] []) (P := (q_bz r11.1) = 0) ok_X15_isRest rfl q_cn (fun h12 => ?_) (fun h12 => ?_)
        · have hf := q_ip h12 hf
          refine q_blk 1 [] (c' := q_kc (t, r, 0, 529, 539, (q_pE ext), (q_pR rx), L) I E 37 [some (.ref 492), some (.int x1)] [.int (0 : Int32)] [(492, r11.2), (497, r9.2.2)] []) ok_X15_isRest rfl q_cn ?_
          cases hf
          exact q_kri ok_X15_isRest rfl rfl rfl (Nat.le_of_ble_eq_true rfl) (Nat.le_of_ble_eq_true rfl) ⟨rfl, q_hpe (q_pdw [492, 497, 529, 537, 538] rfl rfl) (q_pdw [] rfl rfl)⟩
        · have hf := q_in h12 hf
          refine q_blk 3 [] (c' := q_kc (t, r, 0, 529, 539, (q_pE ext), (q_pR rx), L) I E 32 [some (.ref 492), some (.int x1)] [.int (4 : Int32), .int (40 : Int32), .ref 492] [(492, r11.2), (497, r9.2.2)] []) ok_X15_isRest rfl q_cn ?_
          obtain ⟨r13, hr13, hf⟩ := q_bd hf
          refine q_kV (M2 := m_X15_eatAs) (As := [.int (40 : Int32), .int (4 : Int32)]) (b := 492) (v2 := some (.int (q_bz r13.1))) ok_X15_isRest ok_X15_eatAs cv_X15_eatAs (ct_X15_eatAs_492_P (d := 3) (Nat.le_refl _) hr13) rfl rfl (Or.inl rfl) rfl rfl rfl rfl (Nat.le_trans (Nat.le_of_ble_eq_true rfl) hd) (Nat.le_of_ble_eq_true rfl) (Nat.le_of_ble_eq_true rfl) (Nat.le_of_ble_eq_true rfl) (fun x hx => absurd hx List.not_mem_nil) (q_nmL0 _) (q_nmS0 _) rfl (pos' := 33) (st' := [.int (q_bz r13.1)]) (lI' := [(492, r13.2.1), (497, r13.2.2)]) (lE' := []) rfl rfl (q_mgw rfl rfl) rfl ?_
          refine q_blf 0 [] (a := q_kc (t, r, 0, 529, 539, (q_pE ext), (q_pR rx), L) I E 36 [some (.ref 492), some (.int x1)] [] [(492, r13.2.1), (497, r13.2.2)] []) (b := q_kc (t, r, 0, 529, 539, (q_pE ext), (q_pR rx), L) I E 34 [some (.ref 492), some (.int x1)] [] [(492, r13.2.1), (497, r13.2.2)] []) (P := (q_bz r13.1) = 0) ok_X15_isRest rfl q_cn (fun h14 => ?_) (fun h14 => ?_)
          · have hf := q_ip h14 hf
            refine q_blk 1 [] (c' := q_kc (t, r, 0, 529, 539, (q_pE ext), (q_pR rx), L) I E 37 [some (.ref 492), some (.int x1)] [.int (0 : Int32)] [(492, r13.2.1), (497, r13.2.2)] []) ok_X15_isRest rfl q_cn ?_
            cases hf
            exact q_kri ok_X15_isRest rfl rfl rfl (Nat.le_of_ble_eq_true rfl) (Nat.le_of_ble_eq_true rfl) ⟨rfl, q_hpe (q_pdw [492, 497, 529, 537, 538] rfl rfl) (q_pdw [] rfl rfl)⟩
          · have hf := q_in h14 hf
            refine q_blk 2 [] (c' := q_kc (t, r, 0, 529, 539, (q_pE ext), (q_pR rx), L) I E 37 [some (.ref 492), some (.int x1)] [.int (1 : Int32)] [(492, r13.2.1), (497, r13.2.2)] []) ok_X15_isRest rfl q_cn ?_
            cases hf
            exact q_kri ok_X15_isRest rfl rfl rfl (Nat.le_of_ble_eq_true rfl) (Nat.le_of_ble_eq_true rfl) ⟨rfl, q_hpe (q_pdw [492, 497, 529, 537, 538] rfl rfl) (q_pdw [] rfl rfl)⟩
    | 4, ht9 =>
      have hx9 : x1 = 8 := hx9
      cases ht9
      have hf := q_in (fun hz9 => absurd (hx9.symm.trans hz9) (by decide)) hf
      have hf := q_in (fun hz9 => absurd (hx9.symm.trans hz9) (by decide)) hf
      have hf := q_in (fun hz9 => absurd (hx9.symm.trans hz9) (by decide)) hf
      have hf := q_in (fun hz9 => absurd (hx9.symm.trans hz9) (by decide)) hf
      have hf := q_ip hx9 hf
      refine q_blk 1 [] (c' := q_kc (t, r, 0, 529, 539, (q_pE ext), (q_pR rx), L) I E 58 [some (.ref 492), some (.int x1)] [.int (1 : Int32)] [] []) ok_X15_isRest rfl q_cn ?_
      cases hf
      exact q_kri ok_X15_isRest rfl rfl rfl (Nat.le_of_ble_eq_true rfl) (Nat.le_of_ble_eq_true rfl) ⟨rfl, q_hpe (q_pdw [492, 497, 529, 537, 538] rfl rfl) (q_pdw [] rfl rfl)⟩
    | 5, ht9 =>
      have hx9 : x1 = 9 := hx9
      cases ht9
      have hf := q_in (fun hz9 => absurd (hx9.symm.trans hz9) (by decide)) hf
      have hf := q_in (fun hz9 => absurd (hx9.symm.trans hz9) (by decide)) hf
      have hf := q_in (fun hz9 => absurd (hx9.symm.trans hz9) (by decide)) hf
      have hf := q_in (fun hz9 => absurd (hx9.symm.trans hz9) (by decide)) hf
      have hf := q_in (fun hz9 => absurd (hx9.symm.trans hz9) (by decide)) hf
      have hf := q_ip hx9 hf
      refine q_blk 1 [] (c' := q_kc (t, r, 0, 529, 539, (q_pE ext), (q_pR rx), L) I E 58 [some (.ref 492), some (.int x1)] [.int (1 : Int32)] [] []) ok_X15_isRest rfl q_cn ?_
      cases hf
      exact q_kri ok_X15_isRest rfl rfl rfl (Nat.le_of_ble_eq_true rfl) (Nat.le_of_ble_eq_true rfl) ⟨rfl, q_hpe (q_pdw [492, 497, 529, 537, 538] rfl rfl) (q_pdw [] rfl rfl)⟩
    | 6, ht9 =>
      have hx9 : x1 = 10 := hx9
      cases ht9
      have hf := q_in (fun hz9 => absurd (hx9.symm.trans hz9) (by decide)) hf
      have hf := q_in (fun hz9 => absurd (hx9.symm.trans hz9) (by decide)) hf
      have hf := q_in (fun hz9 => absurd (hx9.symm.trans hz9) (by decide)) hf
      have hf := q_in (fun hz9 => absurd (hx9.symm.trans hz9) (by decide)) hf
      have hf := q_in (fun hz9 => absurd (hx9.symm.trans hz9) (by decide)) hf
      have hf := q_in (fun hz9 => absurd (hx9.symm.trans hz9) (by decide)) hf
      have hf := q_ip hx9 hf
      refine q_blk 1 [] (c' := q_kc (t, r, 0, 529, 539, (q_pE ext), (q_pR rx), L) I E 39 [some (.ref 492), some (.int x1)] [.ref 492] [] []) ok_X15_isRest rfl q_cn ?_
      obtain ⟨r15, hr15, hf⟩ := q_bd hf
      refine q_kV (M2 := m_X15_isRope) (As := []) (b := 492) (v2 := some (.int (q_bz r15.1))) ok_X15_isRest ok_X15_isRope cv_X15_isRope (ct_X15_isRope_492_P (d := 4) (Nat.le_refl _) hr15) rfl rfl (Or.inl rfl) rfl rfl rfl rfl (Nat.le_trans (Nat.le_of_ble_eq_true rfl) hd) (Nat.le_of_ble_eq_true rfl) (Nat.le_of_ble_eq_true rfl) (Nat.le_of_ble_eq_true rfl) (fun x hx => absurd hx List.not_mem_nil) (q_nmL0 _) (q_nmS0 _) rfl (pos' := 40) (st' := [.int (q_bz r15.1)]) (lI' := [(492, r15.2.1), (497, r15.2.2)]) (lE' := []) rfl rfl (q_mgw rfl rfl) rfl ?_
      cases hf
      exact q_kri ok_X15_isRest rfl rfl (q_bz_nr _) (Nat.le_of_ble_eq_true rfl) (Nat.le_of_ble_eq_true rfl) ⟨rfl, q_hpe (q_pdw [492, 497, 529, 537, 538] rfl rfl) (q_pdw [] rfl rfl)⟩
    | 7, ht9 =>
      have hx9 : x1 = 11 := hx9
      cases ht9
      have hf := q_in (fun hz9 => absurd (hx9.symm.trans hz9) (by decide)) hf
      have hf := q_in (fun hz9 => absurd (hx9.symm.trans hz9) (by decide)) hf
      have hf := q_in (fun hz9 => absurd (hx9.symm.trans hz9) (by decide)) hf
      have hf := q_in (fun hz9 => absurd (hx9.symm.trans hz9) (by decide)) hf
      have hf := q_in (fun hz9 => absurd (hx9.symm.trans hz9) (by decide)) hf
      have hf := q_in (fun hz9 => absurd (hx9.symm.trans hz9) (by decide)) hf
      have hf := q_in (fun hz9 => absurd (hx9.symm.trans hz9) (by decide)) hf
      have hf := q_ip hx9 hf
      refine q_blk 2 [] (c' := q_kc (t, r, 0, 529, 539, (q_pE ext), (q_pR rx), L) I E 43 [some (.ref 492), some (.int x1)] [.int (12 : Int32), .ref 492] [] []) ok_X15_isRest rfl q_cn ?_
      obtain ⟨r16, hr16, hf⟩ := q_bd hf
      refine q_kV (M2 := m_X15_eat) (As := [.int (12 : Int32)]) (b := 492) (v2 := some (.int (q_bz r16.1))) ok_X15_isRest ok_X15_eat cv_X15_eat (ct_X15_eat_492_P (d := 2) (Nat.le_refl _) hr16) rfl rfl (Or.inl rfl) rfl rfl rfl rfl (Nat.le_trans (Nat.le_of_ble_eq_true rfl) hd) (Nat.le_of_ble_eq_true rfl) (Nat.le_of_ble_eq_true rfl) (Nat.le_of_ble_eq_true rfl) (fun x hx => absurd hx List.not_mem_nil) (q_nmL0 _) (q_nmS0 _) rfl (pos' := 44) (st' := [.int (q_bz r16.1)]) (lI' := [(492, r16.2)]) (lE' := []) rfl rfl (q_mgw rfl rfl) rfl ?_
      refine q_blf 0 [] (a := q_kc (t, r, 0, 529, 539, (q_pE ext), (q_pR rx), L) I E 55 [some (.ref 492), some (.int x1)] [] [(492, r16.2)] []) (b := q_kc (t, r, 0, 529, 539, (q_pE ext), (q_pR rx), L) I E 45 [some (.ref 492), some (.int x1)] [] [(492, r16.2)] []) (P := (q_bz r16.1) = 0) ok_X15_isRest rfl q_cn (fun h17 => ?_) (fun h17 => ?_)
      · have hf := q_ip h17 hf
        refine q_blk 1 [] (c' := q_kc (t, r, 0, 529, 539, (q_pE ext), (q_pR rx), L) I E 56 [some (.ref 492), some (.int x1)] [.int (0 : Int32)] [(492, r16.2)] []) ok_X15_isRest rfl q_cn ?_
        cases hf
        exact q_kri ok_X15_isRest rfl rfl rfl (Nat.le_of_ble_eq_true rfl) (Nat.le_of_ble_eq_true rfl) ⟨rfl, q_hpe (q_pdw [492, 497, 529, 537, 538] rfl rfl) (q_pdw [] rfl rfl)⟩
      · have hf := q_in h17 hf
        refine q_blk 3 [] (c' := q_kc (t, r, 0, 529, 539, (q_pE ext), (q_pR rx), L) I E 48 [some (.ref 492), some (.int x1)] [.int (4 : Int32), .int (40 : Int32), .ref 492] [(492, r16.2)] []) ok_X15_isRest rfl q_cn ?_
        obtain ⟨r18, hr18, hf⟩ := q_bd hf
        refine q_kV (M2 := m_X15_eatAs) (As := [.int (40 : Int32), .int (4 : Int32)]) (b := 492) (v2 := some (.int (q_bz r18.1))) ok_X15_isRest ok_X15_eatAs cv_X15_eatAs (ct_X15_eatAs_492_P (d := 3) (Nat.le_refl _) hr18) rfl rfl (Or.inl rfl) rfl rfl rfl rfl (Nat.le_trans (Nat.le_of_ble_eq_true rfl) hd) (Nat.le_of_ble_eq_true rfl) (Nat.le_of_ble_eq_true rfl) (Nat.le_of_ble_eq_true rfl) (fun x hx => absurd hx List.not_mem_nil) (q_nmL0 _) (q_nmS0 _) rfl (pos' := 49) (st' := [.int (q_bz r18.1)]) (lI' := [(492, r18.2.1), (497, r18.2.2)]) (lE' := []) rfl rfl (q_mgw rfl rfl) rfl ?_
        refine q_blf 0 [] (a := q_kc (t, r, 0, 529, 539, (q_pE ext), (q_pR rx), L) I E 55 [some (.ref 492), some (.int x1)] [] [(492, r18.2.1), (497, r18.2.2)] []) (b := q_kc (t, r, 0, 529, 539, (q_pE ext), (q_pR rx), L) I E 50 [some (.ref 492), some (.int x1)] [] [(492, r18.2.1), (497, r18.2.2)] []) (P := (q_bz r18.1) = 0) ok_X15_isRest rfl q_cn (fun h19 => ?_) (fun h19 => ?_)
        · have hf := q_ip h19 hf
          refine q_blk 1 [] (c' := q_kc (t, r, 0, 529, 539, (q_pE ext), (q_pR rx), L) I E 56 [some (.ref 492), some (.int x1)] [.int (0 : Int32)] [(492, r18.2.1), (497, r18.2.2)] []) ok_X15_isRest rfl q_cn ?_
          cases hf
          exact q_kri ok_X15_isRest rfl rfl rfl (Nat.le_of_ble_eq_true rfl) (Nat.le_of_ble_eq_true rfl) ⟨rfl, q_hpe (q_pdw [492, 497, 529, 537, 538] rfl rfl) (q_pdw [] rfl rfl)⟩
        · have hf := q_in h19 hf
          refine q_blk 1 [] (c' := q_kc (t, r, 0, 529, 539, (q_pE ext), (q_pR rx), L) I E 51 [some (.ref 492), some (.int x1)] [.ref 492] [(492, r18.2.1), (497, r18.2.2)] []) ok_X15_isRest rfl q_cn ?_
          obtain ⟨r20, hr20, hf⟩ := q_bd hf
          refine q_kV (M2 := m_X15_isRope) (As := []) (b := 492) (v2 := some (.int (q_bz r20.1))) ok_X15_isRest ok_X15_isRope cv_X15_isRope (ct_X15_isRope_492_P (d := 4) (Nat.le_refl _) hr20) rfl rfl (Or.inl rfl) rfl rfl rfl rfl (Nat.le_trans (Nat.le_of_ble_eq_true rfl) hd) (Nat.le_of_ble_eq_true rfl) (Nat.le_of_ble_eq_true rfl) (Nat.le_of_ble_eq_true rfl) (fun x hx => absurd hx List.not_mem_nil) (q_nmL0 _) (q_nmS0 _) rfl (pos' := 52) (st' := [.int (q_bz r20.1)]) (lI' := [(492, r20.2.1), (497, r20.2.2)]) (lE' := []) rfl rfl (q_mgw rfl rfl) rfl ?_
          refine q_blf 0 [] (a := q_kc (t, r, 0, 529, 539, (q_pE ext), (q_pR rx), L) I E 55 [some (.ref 492), some (.int x1)] [] [(492, r20.2.1), (497, r20.2.2)] []) (b := q_kc (t, r, 0, 529, 539, (q_pE ext), (q_pR rx), L) I E 53 [some (.ref 492), some (.int x1)] [] [(492, r20.2.1), (497, r20.2.2)] []) (P := (q_bz r20.1) = 0) ok_X15_isRest rfl q_cn (fun h21 => ?_) (fun h21 => ?_)
          · have hf := q_ip h21 hf
            refine q_blk 1 [] (c' := q_kc (t, r, 0, 529, 539, (q_pE ext), (q_pR rx), L) I E 56 [some (.ref 492), some (.int x1)] [.int (0 : Int32)] [(492, r20.2.1), (497, r20.2.2)] []) ok_X15_isRest rfl q_cn ?_
            cases hf
            exact q_kri ok_X15_isRest rfl rfl rfl (Nat.le_of_ble_eq_true rfl) (Nat.le_of_ble_eq_true rfl) ⟨rfl, q_hpe (q_pdw [492, 497, 529, 537, 538] rfl rfl) (q_pdw [] rfl rfl)⟩
          · have hf := q_in h21 hf
            refine q_blk 2 [] (c' := q_kc (t, r, 0, 529, 539, (q_pE ext), (q_pR rx), L) I E 56 [some (.ref 492), some (.int x1)] [.int (1 : Int32)] [(492, r20.2.1), (497, r20.2.2)] []) ok_X15_isRest rfl q_cn ?_
            cases hf
            exact q_kri ok_X15_isRest rfl rfl rfl (Nat.le_of_ble_eq_true rfl) (Nat.le_of_ble_eq_true rfl) ⟨rfl, q_hpe (q_pdw [492, 497, 529, 537, 538] rfl rfl) (q_pdw [] rfl rfl)⟩
    | z9 + 8, ht9 => cases ht9
  · have hf := q_in (hx9 0 (by decide)) hf
    have hf := q_in (hx9 1 (by decide)) hf
    have hf := q_in (hx9 2 (by decide)) hf
    have hf := q_in (hx9 3 (by decide)) hf
    have hf := q_in (hx9 4 (by decide)) hf
    have hf := q_in (hx9 5 (by decide)) hf
    have hf := q_in (hx9 6 (by decide)) hf
    have hf := q_in (hx9 7 (by decide)) hf
    refine q_blk 1 [] (c' := q_kc (t, r, 0, 529, 539, (q_pE ext), (q_pR rx), L) I E 58 [some (.ref 492), some (.int x1)] [.int (1 : Int32)] [] []) ok_X15_isRest rfl q_cn ?_
    cases hf
    exact q_kri ok_X15_isRest rfl rfl rfl (Nat.le_of_ble_eq_true rfl) (Nat.le_of_ble_eq_true rfl) ⟨rfl, q_hpe (q_pdw [492, 497, 529, 537, 538] rfl rfl) (q_pdw [] rfl rfl)⟩
