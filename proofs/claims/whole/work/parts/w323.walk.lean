set_option maxHeartbeats 4000000 in
theorem lp_X15_between_L30_492 {g : q_G} {d mc ms : Nat} {h0 : q_H} {Q : (Option Value ⊕ String) → q_H → Prop} {k n : Nat} {t : Nat} {r : Nat} {z : Nat} {ext : Nat → q_Sh} {rx : Nat → Nat → Option Nat} {L : Nat → Nat → Int64} (hd : 2 ≤ d) (hk : k ≤ mc) (hn : n ≤ ms)  {v2 : Int32} {v4 : Int32} {v5 : Int32} : ∀ (fu : Nat) {I : Nat → Nat → Int32} {E : Nat → Nat → Option Nat} {v6 : Int32} {r0 : (Nat → Int32) × (Nat → Int32) × (Nat → Int32) × (Nat → Int32)} (hf : f_X15_between_L30 (I 517) (I 519) v5 fu (I 492) (I 510) (I 511) (I 529) v6 = some r0) (hK0 : q_J g m_X15_between d mc ms h0 [] Q k n (q_kc (t, r, 1, z, 530, (q_ur ext 529 (1, 0, 136)), rx, L) I E 70 [some (.ref 492), none, some (.int v2), some (.ref 529), some (.int v4), none, none, none] [] [(492, r0.1), (510, r0.2.1), (511, r0.2.2.1), (529, r0.2.2.2)] [])), q_J g m_X15_between d mc ms h0 [] Q k n (30, [some (.ref 492), none, some (.int v2), some (.ref 529), some (.int v4), some (.int v5), some (.int v6), none], [], q_hp (t, r, 1, z, 530, (q_ur ext 529 (1, 0, 136)), rx, L) I E) := by
  intro fu
  induction fu with
  | zero =>
    intro I E v6 r0 hf hK0
    rw [f_X15_between_L30] at hf
    cases hf
  | succ fu ih =>
    intro I E v6 r0 hf hK0
    rw [f_X15_between_L30] at hf
    change q_J g m_X15_between d mc ms h0 [] Q k n (q_kc (t, r, 1, z, 530, (q_ur ext 529 (1, 0, 136)), rx, L) I E 30 [some (.ref 492), none, some (.int v2), some (.ref 529), some (.int v4), some (.int v5), some (.int v6), none] [] [] [])
    obtain ⟨j1, hj1, hf⟩ := q_bd hf
    refine q_blf 6 [j1] (a := q_kc (t, r, 1, z, 530, (q_ur ext 529 (1, 0, 136)), rx, L) I E 70 [some (.ref 492), none, some (.int v2), some (.ref 529), some (.int v4), some (.int v5), some (.int v6), none] [] [] []) (b := q_kc (t, r, 1, z, 530, (q_ur ext 529 (1, 0, 136)), rx, L) I E 37 [some (.ref 492), none, some (.int v2), some (.ref 529), some (.int v4), some (.int v5), some (.int v6), none] [] [] []) (P := ((I 517) j1) ≤ v6) ok_X15_between rfl (q_cc hj1 q_cn) (fun h2 => ?_) (fun h2 => ?_)
    · have hf := q_ip h2 hf
      refine q_less (ls' := [some (.ref 492), none, some (.int v2), some (.ref 529), some (.int v4), none, none, none]) (q_sb2 (q_sb1 (q_sb2 (q_sb2 (q_sb2 (q_sb1 (q_sb1 (q_sb1 q_sb0)))))))) ?_
      cases hf
      exact q_Jpad (q_pdw [492, 510, 511, 529] rfl rfl) (q_pdw [] rfl rfl) hK0
    · have hf := q_in h2 hf
      obtain ⟨j3, hj3, hf⟩ := q_bd hf
      refine q_blf 12 [j3] (a := q_kc (t, r, 1, z, 530, (q_ur ext 529 (1, 0, 136)), rx, L) I E 68 [some (.ref 492), none, some (.int v2), some (.ref 529), some (.int v4), some (.int v5), some (.int v6), some (.int ((I 519) j3))] [] [] []) (b := q_kc (t, r, 1, z, 530, (q_ur ext 529 (1, 0, 136)), rx, L) I E 50 [some (.ref 492), none, some (.int v2), some (.ref 529), some (.int v4), some (.int v5), some (.int v6), some (.int ((I 519) j3))] [] [] []) (P := ((I 519) j3) = (-1 : Int32)) ok_X15_between rfl (q_cc hj3 q_cn) (fun h4 => ?_) (fun h4 => ?_)
      · have hf := q_ip h4 hf
        refine q_blk 2 [] (c' := q_kc (t, r, 1, z, 530, (q_ur ext 529 (1, 0, 136)), rx, L) I E 30 [some (.ref 492), none, some (.int v2), some (.ref 529), some (.int v4), some (.int v5), some (.int (v6 + 1)), some (.int ((I 519) j3))] [] [] []) ok_X15_between rfl q_cn ?_
        refine q_less (ls' := [some (.ref 492), none, some (.int v2), some (.ref 529), some (.int v4), some (.int v5), some (.int (v6 + 1)), none]) (q_sb2 (q_sb1 (q_sb2 (q_sb2 (q_sb2 (q_sb2 (q_sb2 (q_sb1 q_sb0)))))))) ?_
        exact ih (I := q_ws I []) (E := q_ws E []) hf (q_Jmrg (q_mgw rfl rfl) (q_mgw rfl rfl) hK0)
      · have hf := q_in h4 hf
        obtain ⟨j5, hj5, hf⟩ := q_bd hf
        refine q_blf 4 [j5] (a := q_kc (t, r, 1, z, 530, (q_ur ext 529 (1, 0, 136)), rx, L) I E 56 [some (.ref 492), none, some (.int v2), some (.ref 529), some (.int v4), some (.int v5), some (.int v6), some (.int ((I 519) j3))] [] [] []) (b := q_kc (t, r, 1, z, 530, (q_ur ext 529 (1, 0, 136)), rx, L) I E 55 [some (.ref 492), none, some (.int v2), some (.ref 529), some (.int v4), some (.int v5), some (.int v6), some (.int ((I 519) j3))] [] [] []) (P := ((I 511) j5) = 0) ok_X15_between rfl (q_cc hj5 q_cn) (fun h6 => ?_) (fun h6 => ?_)
        · have hf := q_ip h6 hf
          obtain ⟨j7, hj7, hf⟩ := q_bd hf
          obtain ⟨j8, hj8, hf⟩ := q_bd hf
          refine q_blk 11 [j7, j8] (c' := q_kc (t, r, 1, z, 530, (q_ur ext 529 (1, 0, 136)), rx, L) I E 67 [some (.ref 492), none, some (.int v2), some (.ref 529), some (.int v4), some (.int v5), some (.int v6), some (.int ((I 519) j3))] [.int ((I 519) j3), .ref 512] [(529, (q_up (I 529) j8 (((I 529) j7) + (1 : Int32))))] []) ok_X15_between rfl (q_cc hj8 (q_cc hj7 q_cn)) ?_
          obtain ⟨r9, hr9, hf⟩ := q_bd hf
          refine q_kV (M2 := m_X14_comeTo) (As := [.int ((I 519) j3)]) (b := 512) (v2 := none) ok_X15_between ok_X14_comeTo cv_X14_comeTo (ct_X14_comeTo_512 (d := 1) (Nat.le_refl _) hr9) rfl rfl (Or.inr ⟨_, rfl⟩) rfl rfl rfl rfl (Nat.le_trans (Nat.le_of_ble_eq_true rfl) hd) hk hn (Nat.le_of_ble_eq_true rfl) (fun x hx => absurd hx List.not_mem_nil) (q_nmL0 _) (q_nmS0 _) rfl (pos' := 68) (st' := []) (lI' := [(492, r9.1), (510, r9.2.1), (511, r9.2.2), (529, (q_up (I 529) j8 (((I 529) j7) + (1 : Int32))))]) (lE' := []) rfl rfl (q_mgw rfl rfl) rfl ?_
          refine q_blk 2 [] (c' := q_kc (t, r, 1, z, 530, (q_ur ext 529 (1, 0, 136)), rx, L) I E 30 [some (.ref 492), none, some (.int v2), some (.ref 529), some (.int v4), some (.int v5), some (.int (v6 + 1)), some (.int ((I 519) j3))] [] [(492, r9.1), (510, r9.2.1), (511, r9.2.2), (529, (q_up (I 529) j8 (((I 529) j7) + (1 : Int32))))] []) ok_X15_between rfl q_cn ?_
          refine q_less (ls' := [some (.ref 492), none, some (.int v2), some (.ref 529), some (.int v4), some (.int v5), some (.int (v6 + 1)), none]) (q_sb2 (q_sb1 (q_sb2 (q_sb2 (q_sb2 (q_sb2 (q_sb2 (q_sb1 q_sb0)))))))) ?_
          exact ih (I := q_ws I [(492, r9.1), (510, r9.2.1), (511, r9.2.2), (529, (q_up (I 529) j8 (((I 529) j7) + (1 : Int32))))]) (E := q_ws E []) hf (q_Jmrg (q_mgw rfl rfl) (q_mgw rfl rfl) hK0)
        · have hf := q_in h6 hf
          refine q_blk 3 [] (c' := q_kc (t, r, 1, z, 530, (q_ur ext 529 (1, 0, 136)), rx, L) I E 30 [some (.ref 492), none, some (.int v2), some (.ref 529), some (.int v4), some (.int v5), some (.int (v6 + 1)), some (.int ((I 519) j3))] [] [] []) ok_X15_between rfl q_cn ?_
          refine q_less (ls' := [some (.ref 492), none, some (.int v2), some (.ref 529), some (.int v4), some (.int v5), some (.int (v6 + 1)), none]) (q_sb2 (q_sb1 (q_sb2 (q_sb2 (q_sb2 (q_sb2 (q_sb2 (q_sb1 q_sb0)))))))) ?_
          exact ih (I := q_ws I []) (E := q_ws E []) hf (q_Jmrg (q_mgw rfl rfl) (q_mgw rfl rfl) hK0)
set_option maxHeartbeats 4000000 in
theorem lp_X15_between_L12_492 {g : q_G} {d mc ms : Nat} {h0 : q_H} {Q : (Option Value ⊕ String) → q_H → Prop} {k n : Nat} {t : Nat} {r : Nat} {z : Nat} {ext : Nat → q_Sh} {rx : Nat → Nat → Option Nat} {L : Nat → Nat → Int64} (hd : 2 ≤ d) (hk : k ≤ mc) (hn : n ≤ ms)  {v2 : Int32} : ∀ (fu : Nat) {I : Nat → Nat → Int32} {E : Nat → Nat → Option Nat} {v4 : Int32} {r0 : Nat × Int32 × (Nat → Int32) × (Nat → Int32) × (Nat → Int32) × (Nat → Int32)} (hf : f_X15_between_L12 (I 517) (I 519) v2 fu (I 492) (I 510) (I 511) (I 529) v4 = some r0) (hK0 : r0.1 = 0 → q_J g m_X15_between d mc ms h0 [] Q k n (q_kc (t, r, 1, z, 530, (q_ur ext 529 (1, 0, 136)), rx, L) I E 72 [none, none, none, none, none, none, none, none] [] [(492, r0.2.2.1), (510, r0.2.2.2.1), (511, r0.2.2.2.2.1), (529, r0.2.2.2.2.2)] [])) (hK1 : r0.1 = 1 → q_J g m_X15_between d mc ms h0 [] Q k n (q_kc (t, r, 1, z, 530, (q_ur ext 529 (1, 0, 136)), rx, L) I E 24 [none, none, none, some (.ref 529), none, some (.int r0.2.1), none, none] [] [(492, r0.2.2.1), (510, r0.2.2.2.1), (511, r0.2.2.2.2.1), (529, r0.2.2.2.2.2)] [])), q_J g m_X15_between d mc ms h0 [] Q k n (12, [some (.ref 492), none, some (.int v2), some (.ref 529), some (.int v4), none, none, none], [], q_hp (t, r, 1, z, 530, (q_ur ext 529 (1, 0, 136)), rx, L) I E) := by
  intro fu
  induction fu with
  | zero =>
    intro I E v4 r0 hf hK0 hK1
    rw [f_X15_between_L12] at hf
    cases hf
  | succ fu ih =>
    intro I E v4 r0 hf hK0 hK1
    rw [f_X15_between_L12] at hf
    change q_J g m_X15_between d mc ms h0 [] Q k n (q_kc (t, r, 1, z, 530, (q_ur ext 529 (1, 0, 136)), rx, L) I E 12 [some (.ref 492), none, some (.int v2), some (.ref 529), some (.int v4), none, none, none] [] [] [])
    refine q_blf 3 [] (a := q_kc (t, r, 1, z, 530, (q_ur ext 529 (1, 0, 136)), rx, L) I E 72 [some (.ref 492), none, some (.int v2), some (.ref 529), some (.int v4), none, none, none] [] [] []) (b := q_kc (t, r, 1, z, 530, (q_ur ext 529 (1, 0, 136)), rx, L) I E 16 [some (.ref 492), none, some (.int v2), some (.ref 529), some (.int v4), none, none, none] [] [] []) (P := ((I 492) 16) ≤ v4) ok_X15_between rfl q_cn (fun h10 => ?_) (fun h10 => ?_)
    · have hf := q_ip h10 hf
      refine q_less (ls' := [none, none, none, none, none, none, none, none]) (q_sb1 (q_sb1 (q_sb1 (q_sb1 (q_sb1 (q_sb1 (q_sb1 (q_sb1 q_sb0)))))))) ?_
      cases hf
      exact q_Jpad (q_pdw [492, 510, 511, 529] rfl rfl) (q_pdw [] rfl rfl) (hK0 rfl)
    · have hf := q_in h10 hf
      obtain ⟨j11, hj11, hf⟩ := q_bd hf
      refine q_blf 7 [j11] (a := q_kc (t, r, 1, z, 530, (q_ur ext 529 (1, 0, 136)), rx, L) I E 28 [some (.ref 492), none, some (.int v2), some (.ref 529), some (.int v4), some (.int ((I 510) j11)), none, none] [] [] []) (b := q_kc (t, r, 1, z, 530, (q_ur ext 529 (1, 0, 136)), rx, L) I E 24 [some (.ref 492), none, some (.int v2), some (.ref 529), some (.int v4), some (.int ((I 510) j11)), none, none] [] [] []) (P := ¬ ((I 510) j11) = v2) ok_X15_between rfl (q_cc hj11 q_cn) (fun h12 => ?_) (fun h12 => ?_)
      · have hf := q_ip h12 hf
        refine q_blk 2 [] (c' := q_kc (t, r, 1, z, 530, (q_ur ext 529 (1, 0, 136)), rx, L) I E 30 [some (.ref 492), none, some (.int v2), some (.ref 529), some (.int v4), some (.int ((I 510) j11)), some (.int (0 : Int32)), none] [] [] []) ok_X15_between rfl q_cn ?_
        obtain ⟨r13, hr13, hf⟩ := q_bd hf
        refine lp_X15_between_L30_492 (I := q_ws I []) (E := q_ws E []) hd hk hn 4096 hr13 ?_
        refine q_Jmrg (lI' := [(492, r13.1), (510, r13.2.1), (511, r13.2.2.1), (529, r13.2.2.2)]) (lE' := []) (q_mgw rfl rfl) (q_mgw rfl rfl) ?_
        refine q_blk 2 [] (c' := q_kc (t, r, 1, z, 530, (q_ur ext 529 (1, 0, 136)), rx, L) I E 12 [some (.ref 492), none, some (.int v2), some (.ref 529), some (.int (v4 + 1)), none, none, none] [] [(492, r13.1), (510, r13.2.1), (511, r13.2.2.1), (529, r13.2.2.2)] []) ok_X15_between rfl q_cn ?_
        exact ih (I := q_ws I [(492, r13.1), (510, r13.2.1), (511, r13.2.2.1), (529, r13.2.2.2)]) (E := q_ws E []) hf (fun hz => q_Jmrg (q_mgw rfl rfl) (q_mgw rfl rfl) (hK0 hz)) (fun hz => q_Jmrg (q_mgw rfl rfl) (q_mgw rfl rfl) (hK1 hz))
      · have hf := q_in h12 hf
        refine q_less (ls' := [none, none, none, some (.ref 529), none, some (.int ((I 510) j11)), none, none]) (q_sb1 (q_sb1 (q_sb1 (q_sb2 (q_sb1 (q_sb2 (q_sb1 (q_sb1 q_sb0)))))))) ?_
        cases hf
        exact q_Jpad (q_pdw [492, 510, 511, 529] rfl rfl) (q_pdw [] rfl rfl) (hK1 rfl)
set_option maxHeartbeats 4000000 in
theorem ct_X15_between_492 {g : q_G} {t : Nat} {r : Nat} {ext : Nat → q_Sh} {rx : Nat → Nat → Option Nat} {L : Nat → Nat → Int64} {d : Nat} (hd : 2 ≤ d)  {I : Nat → Nat → Int32} {E : Nat → Nat → Option Nat} {x1 : Int32} {x2 : Int32} {r0 : Int32 × (Nat → Int32) × (Nat → Int32) × (Nat → Int32)} (hf : f_X15_between (I 492) (I 510) (I 511) (I 517) (I 519) x1 x2 = some r0) : q_Ct g m_X15_between d 1 136 [] [.ref 492, .int x1, .int x2] (q_hp (t, r, 1, 499, 529, ext, rx, L) I E) (fun o h' => o = .inl (some (.int r0.1)) ∧ h' = q_hp (t, r, 1, 499, 529, ext, rx, L) (q_ws I [(492, r0.2.1), (510, r0.2.2.1), (511, r0.2.2.2)]) (q_ws E [])) := by
  rw [f_X15_between] at hf
  refine q_Ct_of ok_X15_between (Nat.le_of_ble_eq_true rfl) ?_ _ rfl rfl
  change q_J g m_X15_between d 1 136 _ [] _ 0 0 (q_kc (t, r, 1, 499, 529, ext, rx, L) I E 0 [some (.ref 492), some (.int x1), some (.int x2), none, none, none, none, none] [] [] [])
  refine q_clo_J (fun hclo0 => ?_)
  refine q_blk 1 [] (c' := q_kc (t, r, 1, 499, 529, ext, rx, L) I E 1 [some (.ref 492), some (.int x1), some (.int x2), none, none, none, none, none] [.int (136 : Int32)] [] []) ok_X15_between rfl q_cn ?_
  refine q_knewI (Lw := 136) (pos' := 2) (lI' := [(529, (fun _ => 0))]) (lE' := [(529, (fun _ => none))]) ok_X15_between rfl rfl rfl (Nat.le_of_ble_eq_true rfl) (Nat.le_of_ble_eq_true rfl) rfl rfl rfl ?_
  refine q_blk 3 [] (c' := q_kc (t, r, 1, 499, 530, (q_ur ext 529 (1, 0, 136)), (q_ur rx 529 (fun _ => none)), (q_ur L 529 (fun _ => 0))) I E 5 [some (.ref 492), some (.int x1), some (.int x2), some (.ref 529), none, none, none, none] [.ref 512] [(529, (fun _ => 0))] [(529, (fun _ => none))]) ok_X15_between rfl q_cn ?_
  obtain ⟨r14, hr14, hf⟩ := q_bd hf
  refine q_kV (M2 := m_X14_forget) (As := []) (b := 512) (v2 := none) ok_X15_between ok_X14_forget cv_X14_forget (ct_X14_forget_512 (d := 1) (Nat.le_refl _) hr14) rfl rfl (Or.inr ⟨_, rfl⟩) rfl rfl rfl rfl (Nat.le_trans (Nat.le_of_ble_eq_true rfl) hd) (Nat.le_of_ble_eq_true rfl) (Nat.le_of_ble_eq_true rfl) (Nat.le_of_ble_eq_true rfl) (fun x hx => absurd hx List.not_mem_nil) (q_nmL0 _) (q_nmS0 _) rfl (pos' := 6) (st' := []) (lI' := [(492, r14.1), (511, r14.2), (529, (fun _ => 0))]) (lE' := [(529, (fun _ => none))]) rfl rfl (q_mgw rfl rfl) rfl ?_
  refine q_blk 3 [] (c' := q_kc (t, r, 1, 499, 530, (q_ur ext 529 (1, 0, 136)), (q_ur rx 529 (fun _ => none)), (q_ur L 529 (fun _ => 0))) I E 9 [some (.ref 492), some (.int x1), some (.int x2), some (.ref 529), none, none, none, none] [.int x1, .ref 512] [(492, r14.1), (511, r14.2), (529, (fun _ => 0))] [(529, (fun _ => none))]) ok_X15_between rfl q_cn ?_
  obtain ⟨r15, hr15, hf⟩ := q_bd hf
  refine q_kV (M2 := m_X14_comeTo) (As := [.int x1]) (b := 512) (v2 := none) ok_X15_between ok_X14_comeTo cv_X14_comeTo (ct_X14_comeTo_512 (d := 1) (Nat.le_refl _) hr15) rfl rfl (Or.inr ⟨_, rfl⟩) rfl rfl rfl rfl (Nat.le_trans (Nat.le_of_ble_eq_true rfl) hd) (Nat.le_of_ble_eq_true rfl) (Nat.le_of_ble_eq_true rfl) (Nat.le_of_ble_eq_true rfl) (fun x hx => absurd hx List.not_mem_nil) (q_nmL0 _) (q_nmS0 _) rfl (pos' := 10) (st' := []) (lI' := [(492, r15.1), (510, r15.2.1), (511, r15.2.2), (529, (fun _ => 0))]) (lE' := [(529, (fun _ => none))]) rfl rfl (q_mgw rfl rfl) rfl ?_
  refine q_blk 2 [] (c' := q_kc (t, r, 1, 499, 530, (q_ur ext 529 (1, 0, 136)), (q_ur rx 529 (fun _ => none)), (q_ur L 529 (fun _ => 0))) I E 12 [some (.ref 492), some (.int x1), some (.int x2), some (.ref 529), some (.int (0 : Int32)), none, none, none] [] [(492, r15.1), (510, r15.2.1), (511, r15.2.2), (529, (fun _ => 0))] [(529, (fun _ => none))]) ok_X15_between rfl q_cn ?_
  refine q_less (ls' := [some (.ref 492), none, some (.int x2), some (.ref 529), some (.int (0 : Int32)), none, none, none]) (q_sb2 (q_sb1 (q_sb2 (q_sb2 (q_sb2 (q_sb1 (q_sb1 (q_sb1 q_sb0)))))))) ?_
  obtain ⟨r16, hr16, hf⟩ := q_bd hf
  refine lp_X15_between_L12_492 (I := q_ws I [(492, r15.1), (510, r15.2.1), (511, r15.2.2), (529, (fun _ => 0))]) (E := q_ws E [(529, (fun _ => none))]) hd (Nat.le_of_ble_eq_true rfl) (Nat.le_of_ble_eq_true rfl) 4096 hr16 ?_ ?_
  · intro hz0
    have hf := q_ip hz0 hf
    refine q_Jmrg (lI' := [(492, r16.2.2.1), (510, r16.2.2.2.1), (511, r16.2.2.2.2.1), (529, r16.2.2.2.2.2)]) (lE' := [(529, (fun _ => none))]) (q_mgw rfl rfl) (q_mgw rfl rfl) ?_
    refine q_blk 1 [] (c' := q_kc (t, r, 1, 499, 530, (q_ur ext 529 (1, 0, 136)), (q_ur rx 529 (fun _ => none)), (q_ur L 529 (fun _ => 0))) I E 73 [none, none, none, none, none, none, none, none] [.int (-1 : Int32)] [(492, r16.2.2.1), (510, r16.2.2.2.1), (511, r16.2.2.2.2.1), (529, r16.2.2.2.2.2)] [(529, (fun _ => none))]) ok_X15_between rfl q_cn ?_
    cases hf
    refine q_less (ls' := [none, none, none, none, none, none, none, none]) (q_sb1 (q_sb1 (q_sb1 (q_sb1 (q_sb1 (q_sb1 (q_sb1 (q_sb1 q_sb0)))))))) ?_
    refine q_kdrop (lI0 := [(492, r16.2.2.1), (510, r16.2.2.2.1), (511, r16.2.2.2.2.1)]) (lE0 := []) hclo0 rfl rfl (q_nrS_of rfl) (q_nrL_of rfl) (Nat.le_refl _) rfl ?_
    exact q_kri ok_X15_between rfl rfl rfl (Nat.le_of_ble_eq_true rfl) (Nat.le_of_ble_eq_true rfl) ⟨rfl, q_hpe (q_pdw [492, 510, 511] rfl rfl) (q_pdw [] rfl rfl)⟩
  · intro hz1
    have hf := q_in (fun h9 => absurd (hz1.symm.trans h9) (by decide)) hf
    refine q_Jmrg (lI' := [(492, r16.2.2.1), (510, r16.2.2.2.1), (511, r16.2.2.2.2.1), (529, r16.2.2.2.2.2)]) (lE' := [(529, (fun _ => none))]) (q_mgw rfl rfl) (q_mgw rfl rfl) ?_
    obtain ⟨j17, hj17, hf⟩ := q_bd hf
    refine q_blk 3 [j17] (c' := q_kc (t, r, 1, 499, 530, (q_ur ext 529 (1, 0, 136)), (q_ur rx 529 (fun _ => none)), (q_ur L 529 (fun _ => 0))) I E 27 [none, none, none, some (.ref 529), none, some (.int r16.2.1), none, none] [.int (r16.2.2.2.2.2 j17)] [(492, r16.2.2.1), (510, r16.2.2.2.1), (511, r16.2.2.2.2.1), (529, r16.2.2.2.2.2)] [(529, (fun _ => none))]) ok_X15_between rfl (q_cc hj17 q_cn) ?_
    cases hf
    refine q_less (ls' := [none, none, none, none, none, none, none, none]) (q_sb1 (q_sb1 (q_sb1 (q_sb1 (q_sb1 (q_sb1 (q_sb1 (q_sb1 q_sb0)))))))) ?_
    refine q_kdrop (lI0 := [(492, r16.2.2.1), (510, r16.2.2.2.1), (511, r16.2.2.2.2.1)]) (lE0 := []) hclo0 rfl rfl (q_nrS_of rfl) (q_nrL_of rfl) (Nat.le_refl _) rfl ?_
    exact q_kri ok_X15_between rfl rfl rfl (Nat.le_of_ble_eq_true rfl) (Nat.le_of_ble_eq_true rfl) ⟨rfl, q_hpe (q_pdw [492, 510, 511] rfl rfl) (q_pdw [] rfl rfl)⟩
set_option maxHeartbeats 4000000 in
theorem ct_X15_ropesBetween_492 {g : q_G} {t : Nat} {r : Nat} {ext : Nat → q_Sh} {rx : Nat → Nat → Option Nat} {L : Nat → Nat → Int64} {d : Nat} (hd : 3 ≤ d)  {I : Nat → Nat → Int32} {E : Nat → Nat → Option Nat} {x1 : Int32} {x2 : Int32} {r0 : Int32 × (Nat → Int32) × (Nat → Int32) × (Nat → Int32)} (hf : f_X15_ropesBetween (I 492) (I 499) (I 510) (I 511) (I 513) (I 517) (I 519) x1 x2 = some r0) : q_Ct g m_X15_ropesBetween d 1 136 [] [.ref 492, .int x1, .int x2] (q_hp (t, r, 1, 499, 529, ext, rx, L) I E) (fun o h' => o = .inl (some (.int r0.1)) ∧ h' = q_hp (t, r, 1, 499, 529, ext, rx, L) (q_ws I [(492, r0.2.1), (510, r0.2.2.1), (511, r0.2.2.2)]) (q_ws E [])) := by
  rw [f_X15_ropesBetween] at hf
  refine q_Ct_of ok_X15_ropesBetween (Nat.le_of_ble_eq_true rfl) ?_ _ rfl rfl
  change q_J g m_X15_ropesBetween d 1 136 _ [] _ 0 0 (q_kc (t, r, 1, 499, 529, ext, rx, L) I E 0 [some (.ref 492), some (.int x1), some (.int x2)] [] [] [])
  refine q_blk 5 [] (c' := q_kc (t, r, 1, 499, 529, ext, rx, L) I E 5 [some (.ref 492), some (.int x1), some (.int x2)] [.int x1, .ref 492] [(492, (q_up (I 492) 0 (0 : Int32)))] []) ok_X15_ropesBetween rfl q_cn ?_
  obtain ⟨r1, hr1, hf⟩ := q_bd hf
  refine q_kV (M2 := m_X15_isHook) (As := [.int x1]) (b := 492) (v2 := some (.int (q_bz r1))) ok_X15_ropesBetween ok_X15_isHook cv_X15_isHook (ct_X15_isHook_492 (d := 2) (Nat.le_refl _) hr1) rfl rfl (Or.inl rfl) rfl rfl rfl rfl (Nat.le_trans (Nat.le_of_ble_eq_true rfl) hd) (Nat.le_of_ble_eq_true rfl) (Nat.le_of_ble_eq_true rfl) (Nat.le_of_ble_eq_true rfl) (fun x hx => absurd hx List.not_mem_nil) (q_nmL0 _) (q_nmS0 _) rfl (pos' := 6) (st' := [.int (q_bz r1)]) (lI' := [(492, (q_up (I 492) 0 (0 : Int32)))]) (lE' := []) rfl rfl rfl rfl ?_
  refine q_blf 0 [] (a := q_kc (t, r, 1, 499, 529, ext, rx, L) I E 11 [some (.ref 492), some (.int x1), some (.int x2)] [] [(492, (q_up (I 492) 0 (0 : Int32)))] []) (b := q_kc (t, r, 1, 499, 529, ext, rx, L) I E 7 [some (.ref 492), some (.int x1), some (.int x2)] [] [(492, (q_up (I 492) 0 (0 : Int32)))] []) (P := (q_bz r1) = 0) ok_X15_ropesBetween rfl q_cn (fun h2 => ?_) (fun h2 => ?_)
  · have hf := q_ip h2 hf
    refine q_blk 2 [] (c' := q_kc (t, r, 1, 499, 529, ext, rx, L) I E 13 [some (.ref 492), some (.int x1), some (.int x2)] [.int (1 : Int32), .ref 492] [(492, (q_up (I 492) 0 (0 : Int32)))] []) ok_X15_ropesBetween rfl q_cn ?_
    obtain ⟨r3, hr3, hf⟩ := q_bd hf
    refine q_kV (M2 := m_X15_no) (As := [.int (1 : Int32)]) (b := 492) (v2 := some (.int r3.1)) ok_X15_ropesBetween ok_X15_no cv_X15_no (ct_X15_no_492 (d := 1) (Nat.le_refl _) hr3) rfl rfl (Or.inl rfl) rfl rfl rfl rfl (Nat.le_trans (Nat.le_of_ble_eq_true rfl) hd) (Nat.le_of_ble_eq_true rfl) (Nat.le_of_ble_eq_true rfl) (Nat.le_of_ble_eq_true rfl) (fun x hx => absurd hx List.not_mem_nil) (q_nmL0 _) (q_nmS0 _) rfl (pos' := 14) (st' := [.int r3.1]) (lI' := [(492, r3.2)]) (lE' := []) rfl rfl (q_mgw rfl rfl) rfl ?_
    cases hf
    exact q_kri ok_X15_ropesBetween rfl rfl rfl (Nat.le_of_ble_eq_true rfl) (Nat.le_of_ble_eq_true rfl) ⟨rfl, q_hpe (q_pdw [492, 510, 511] rfl rfl) (q_pdw [] rfl rfl)⟩
  · have hf := q_in h2 hf
    refine q_blk 2 [] (c' := q_kc (t, r, 1, 499, 529, ext, rx, L) I E 9 [some (.ref 492), some (.int x1), some (.int x2)] [.int x2, .ref 492] [(492, (q_up (I 492) 0 (0 : Int32)))] []) ok_X15_ropesBetween rfl q_cn ?_
    obtain ⟨r4, hr4, hf⟩ := q_bd hf
    refine q_kV (M2 := m_X15_isHook) (As := [.int x2]) (b := 492) (v2 := some (.int (q_bz r4))) ok_X15_ropesBetween ok_X15_isHook cv_X15_isHook (ct_X15_isHook_492 (d := 2) (Nat.le_refl _) hr4) rfl rfl (Or.inl rfl) rfl rfl rfl rfl (Nat.le_trans (Nat.le_of_ble_eq_true rfl) hd) (Nat.le_of_ble_eq_true rfl) (Nat.le_of_ble_eq_true rfl) (Nat.le_of_ble_eq_true rfl) (fun x hx => absurd hx List.not_mem_nil) (q_nmL0 _) (q_nmS0 _) rfl (pos' := 10) (st' := [.int (q_bz r4)]) (lI' := [(492, (q_up (I 492) 0 (0 : Int32)))]) (lE' := []) rfl rfl rfl rfl ?_
    refine q_blf 0 [] (a := q_kc (t, r, 1, 499, 529, ext, rx, L) I E 15 [some (.ref 492), some (.int x1), some (.int x2)] [] [(492, (q_up (I 492) 0 (0 : Int32)))] []) (b := q_kc (t, r, 1, 499, 529, ext, rx, L) I E 11 [some (.ref 492), some (.int x1), some (.int x2)] [] [(492, (q_up (I 492) 0 (0 : Int32)))] []) (P := ¬ (q_bz r4) = 0) ok_X15_ropesBetween rfl q_cn (fun h5 => ?_) (fun h5 => ?_)
    · have hf := q_ip h5 hf
      obtain ⟨j6, hj6, hf⟩ := q_bd hf
      refine q_blf 6 [j6] (a := q_kc (t, r, 1, 499, 529, ext, rx, L) I E 29 [some (.ref 492), some (.int x1), some (.int x2)] [] [(492, (q_up (I 492) 0 (0 : Int32)))] []) (b := q_kc (t, r, 1, 499, 529, ext, rx, L) I E 22 [some (.ref 492), some (.int x1), some (.int x2)] [] [(492, (q_up (I 492) 0 (0 : Int32)))] []) (P := ((I 513) j6) = (-1 : Int32)) ok_X15_ropesBetween rfl (q_cc hj6 q_cn) (fun h7 => ?_) (fun h7 => ?_)
      · have hf := q_ip h7 hf
        refine q_blk 2 [] (c' := q_kc (t, r, 1, 499, 529, ext, rx, L) I E 31 [some (.ref 492), some (.int x1), some (.int x2)] [.int (2 : Int32), .ref 492] [(492, (q_up (I 492) 0 (0 : Int32)))] []) ok_X15_ropesBetween rfl q_cn ?_
        obtain ⟨r8, hr8, hf⟩ := q_bd hf
        refine q_kV (M2 := m_X15_no) (As := [.int (2 : Int32)]) (b := 492) (v2 := some (.int r8.1)) ok_X15_ropesBetween ok_X15_no cv_X15_no (ct_X15_no_492 (d := 1) (Nat.le_refl _) hr8) rfl rfl (Or.inl rfl) rfl rfl rfl rfl (Nat.le_trans (Nat.le_of_ble_eq_true rfl) hd) (Nat.le_of_ble_eq_true rfl) (Nat.le_of_ble_eq_true rfl) (Nat.le_of_ble_eq_true rfl) (fun x hx => absurd hx List.not_mem_nil) (q_nmL0 _) (q_nmS0 _) rfl (pos' := 32) (st' := [.int r8.1]) (lI' := [(492, r8.2)]) (lE' := []) rfl rfl (q_mgw rfl rfl) rfl ?_
        refine q_blk 1 [] (c' := q_kc (t, r, 1, 499, 529, ext, rx, L) I E 45 [some (.ref 492), some (.int x1), some (.int x2)] [.int r8.1] [(492, r8.2)] []) ok_X15_ropesBetween rfl q_cn ?_
        cases hf
        exact q_kri ok_X15_ropesBetween rfl rfl rfl (Nat.le_of_ble_eq_true rfl) (Nat.le_of_ble_eq_true rfl) ⟨rfl, q_hpe (q_pdw [492, 510, 511] rfl rfl) (q_pdw [] rfl rfl)⟩
      · have hf := q_in h7 hf
        obtain ⟨j9, hj9, hf⟩ := q_bd hf
        refine q_blf 6 [j9] (a := q_kc (t, r, 1, 499, 529, ext, rx, L) I E 33 [some (.ref 492), some (.int x1), some (.int x2)] [] [(492, (q_up (I 492) 0 (0 : Int32)))] []) (b := q_kc (t, r, 1, 499, 529, ext, rx, L) I E 29 [some (.ref 492), some (.int x1), some (.int x2)] [] [(492, (q_up (I 492) 0 (0 : Int32)))] []) (P := ¬ ((I 513) j9) = (-1 : Int32)) ok_X15_ropesBetween rfl (q_cc hj9 q_cn) (fun h10 => ?_) (fun h10 => ?_)
        · have hf := q_ip h10 hf
          obtain ⟨j11, hj11, hf⟩ := q_bd hf
          obtain ⟨j12, hj12, hf⟩ := q_bd hf
          refine q_blk 11 [j11, j12] (c' := q_kc (t, r, 1, 499, 529, ext, rx, L) I E 44 [some (.ref 492), some (.int x1), some (.int x2)] [.int ((I 513) j12), .int ((I 513) j11), .ref 492] [(492, (q_up (I 492) 0 (0 : Int32)))] []) ok_X15_ropesBetween rfl (q_cc hj12 (q_cc hj11 q_cn)) ?_
          obtain ⟨r13, hr13, hf⟩ := q_bd hf
          refine q_kV (M2 := m_X15_between) (As := [.int ((I 513) j11), .int ((I 513) j12)]) (b := 492) (v2 := some (.int r13.1)) ok_X15_ropesBetween ok_X15_between cv_X15_between (ct_X15_between_492 (d := 2) (Nat.le_refl _) hr13) rfl rfl (Or.inl rfl) rfl rfl rfl rfl (Nat.le_trans (Nat.le_of_ble_eq_true rfl) hd) (Nat.le_of_ble_eq_true rfl) (Nat.le_of_ble_eq_true rfl) (Nat.le_of_ble_eq_true rfl) (fun x hx => absurd hx List.not_mem_nil) (q_nmL0 _) (q_nmS0 _) rfl (pos' := 45) (st' := [.int r13.1]) (lI' := [(492, r13.2.1), (510, r13.2.2.1), (511, r13.2.2.2)]) (lE' := []) rfl rfl (q_mgw rfl rfl) rfl ?_
          cases hf
          exact q_kri ok_X15_ropesBetween rfl rfl rfl (Nat.le_of_ble_eq_true rfl) (Nat.le_of_ble_eq_true rfl) ⟨rfl, q_hpe (q_pdw [492, 510, 511] rfl rfl) (q_pdw [] rfl rfl)⟩
        · have hf := q_in h10 hf
          refine q_blk 2 [] (c' := q_kc (t, r, 1, 499, 529, ext, rx, L) I E 31 [some (.ref 492), some (.int x1), some (.int x2)] [.int (2 : Int32), .ref 492] [(492, (q_up (I 492) 0 (0 : Int32)))] []) ok_X15_ropesBetween rfl q_cn ?_
          obtain ⟨r14, hr14, hf⟩ := q_bd hf
          refine q_kV (M2 := m_X15_no) (As := [.int (2 : Int32)]) (b := 492) (v2 := some (.int r14.1)) ok_X15_ropesBetween ok_X15_no cv_X15_no (ct_X15_no_492 (d := 1) (Nat.le_refl _) hr14) rfl rfl (Or.inl rfl) rfl rfl rfl rfl (Nat.le_trans (Nat.le_of_ble_eq_true rfl) hd) (Nat.le_of_ble_eq_true rfl) (Nat.le_of_ble_eq_true rfl) (Nat.le_of_ble_eq_true rfl) (fun x hx => absurd hx List.not_mem_nil) (q_nmL0 _) (q_nmS0 _) rfl (pos' := 32) (st' := [.int r14.1]) (lI' := [(492, r14.2)]) (lE' := []) rfl rfl (q_mgw rfl rfl) rfl ?_
          refine q_blk 1 [] (c' := q_kc (t, r, 1, 499, 529, ext, rx, L) I E 45 [some (.ref 492), some (.int x1), some (.int x2)] [.int r14.1] [(492, r14.2)] []) ok_X15_ropesBetween rfl q_cn ?_
          cases hf
          exact q_kri ok_X15_ropesBetween rfl rfl rfl (Nat.le_of_ble_eq_true rfl) (Nat.le_of_ble_eq_true rfl) ⟨rfl, q_hpe (q_pdw [492, 510, 511] rfl rfl) (q_pdw [] rfl rfl)⟩
    · have hf := q_in h5 hf
      refine q_blk 2 [] (c' := q_kc (t, r, 1, 499, 529, ext, rx, L) I E 13 [some (.ref 492), some (.int x1), some (.int x2)] [.int (1 : Int32), .ref 492] [(492, (q_up (I 492) 0 (0 : Int32)))] []) ok_X15_ropesBetween rfl q_cn ?_
      obtain ⟨r15, hr15, hf⟩ := q_bd hf
      refine q_kV (M2 := m_X15_no) (As := [.int (1 : Int32)]) (b := 492) (v2 := some (.int r15.1)) ok_X15_ropesBetween ok_X15_no cv_X15_no (ct_X15_no_492 (d := 1) (Nat.le_refl _) hr15) rfl rfl (Or.inl rfl) rfl rfl rfl rfl (Nat.le_trans (Nat.le_of_ble_eq_true rfl) hd) (Nat.le_of_ble_eq_true rfl) (Nat.le_of_ble_eq_true rfl) (Nat.le_of_ble_eq_true rfl) (fun x hx => absurd hx List.not_mem_nil) (q_nmL0 _) (q_nmS0 _) rfl (pos' := 14) (st' := [.int r15.1]) (lI' := [(492, r15.2)]) (lE' := []) rfl rfl (q_mgw rfl rfl) rfl ?_
      cases hf
      exact q_kri ok_X15_ropesBetween rfl rfl rfl (Nat.le_of_ble_eq_true rfl) (Nat.le_of_ble_eq_true rfl) ⟨rfl, q_hpe (q_pdw [492, 510, 511] rfl rfl) (q_pdw [] rfl rfl)⟩
set_option maxHeartbeats 4000000 in
theorem ct_X14_copy_512_514_529_O {g : q_G} {t : Nat} {r : Nat} {m : Nat} {z : Nat} {ext : Nat → q_Sh} {rx : Nat → Nat → Option Nat} {L : Nat → Nat → Int64} {d : Nat} (hd : 2 ≤ d)  {I : Nat → Nat → Int32} {E : Nat → Nat → Option Nat} {r0 : (Nat → Int32)} (hf : f_X14_copy (I 514) (I 529) = some r0) : q_Ct g m_X14_copy d 0 0 [] [.ref 512, .ref 514, .ref 529] (q_hp (t, r, m, z, 530, (q_ur ext 529 (1, 0, 136)), rx, L) I E) (fun o h' => o = .inl none ∧ h' = q_hp (t, r, m, z, 530, (q_ur ext 529 (1, 0, 136)), rx, L) (q_ws I [(529, r0)]) (q_ws E [])) := by
  rw [f_X14_copy] at hf
  refine q_Ct_of ok_X14_copy (Nat.le_of_ble_eq_true rfl) ?_ _ rfl rfl
  change q_J g m_X14_copy d 0 0 _ [] _ 0 0 (q_kc (t, r, m, z, 530, (q_ur ext 529 (1, 0, 136)), rx, L) I E 0 [some (.ref 512), some (.ref 514), some (.ref 529)] [] [] [])
  refine q_blk 6 [] (c' := q_kc (t, r, m, z, 530, (q_ur ext 529 (1, 0, 136)), rx, L) I E 6 [some (.ref 512), some (.ref 514), some (.ref 529)] [.int (nI 136), .int (0 : Int32), .ref 529, .int (0 : Int32), .ref 514] [] []) ok_X14_copy rfl q_cn ?_
  refine q_kcp (c := 136) (pos' := 7) (lI' := [(529, (q_cp (I 514) (I 529) 136))]) ok_X14_copy rfl rfl (Nat.le_trans (Nat.le_of_ble_eq_true rfl) hd) (Nat.le_of_ble_eq_true rfl) rfl rfl rfl rfl rfl rfl rfl rfl rfl rfl ?_
  cases hf
  exact q_krv ok_X14_copy rfl rfl (Nat.le_of_ble_eq_true rfl) (Nat.le_of_ble_eq_true rfl) ⟨rfl, q_hpe (q_pdw [529] rfl rfl) (q_pdw [] rfl rfl)⟩
set_option maxHeartbeats 4000000 in
theorem lp_X14_gapFor_L2_512 {g : q_G} {d mc ms : Nat} {h0 : q_H} {Q : (Option Value ⊕ String) → q_H → Prop} {k n : Nat} {t : Nat} {r : Nat} {z : Nat} {N : Nat} {ext : Nat → q_Sh} {rx : Nat → Nat → Option Nat} {L : Nat → Nat → Int64} (hd : 3 ≤ d) (hk : k ≤ mc) (hn : n ≤ ms)  {v1 : Int32} : ∀ (fu : Nat) {I : Nat → Nat → Int32} {E : Nat → Nat → Option Nat} {v2 : Int32} {r0 : Nat × Int32} (hf : f_X14_gapFor_L2 (I 499) (I 514) (I 515) (I 516) v1 fu v2 = some r0) (hK0 : r0.1 = 0 → q_J g m_X14_gapFor d mc ms h0 [] Q k n (q_kc (t, r, 1, z, N, ext, rx, L) I E 19 [none, none, none] [] [] [])) (hK1 : r0.1 = 1 → q_J g m_X14_gapFor d mc ms h0 [] Q k n (q_kc (t, r, 1, z, N, ext, rx, L) I E 15 [none, none, some (.int r0.2)] [] [] [])), q_J g m_X14_gapFor d mc ms h0 [] Q k n (2, [some (.ref 512), some (.int v1), some (.int v2)], [], q_hp (t, r, 1, z, N, ext, rx, L) I E) := by
  intro fu
  induction fu with
  | zero =>
    intro I E v2 r0 hf hK0 hK1
    rw [f_X14_gapFor_L2] at hf
    cases hf
  | succ fu ih =>
    intro I E v2 r0 hf hK0 hK1
    rw [f_X14_gapFor_L2] at hf
    change q_J g m_X14_gapFor d mc ms h0 [] Q k n (q_kc (t, r, 1, z, N, ext, rx, L) I E 2 [some (.ref 512), some (.int v1), some (.int v2)] [] [] [])
    refine q_blf 7 [] (a := q_kc (t, r, 1, z, N, ext, rx, L) I E 19 [some (.ref 512), some (.int v1), some (.int v2)] [] [] []) (b := q_kc (t, r, 1, z, N, ext, rx, L) I E 10 [some (.ref 512), some (.int v1), some (.int v2)] [] [] []) (P := ((I 499) 2) < (v2 + v1)) ok_X14_gapFor rfl q_cn (fun h1 => ?_) (fun h1 => ?_)
    · have hf := q_ip h1 hf
      refine q_less (ls' := [none, none, none]) (q_sb1 (q_sb1 (q_sb1 q_sb0))) ?_
      cases hf
      exact q_Jpad (q_pdw [] rfl rfl) (q_pdw [] rfl rfl) (hK0 rfl)
    · have hf := q_in h1 hf
      refine q_blk 2 [] (c' := q_kc (t, r, 1, z, N, ext, rx, L) I E 12 [some (.ref 512), some (.int v1), some (.int v2)] [.int v2, .ref 512] [] []) ok_X14_gapFor rfl q_cn ?_
      obtain ⟨r2, hr2, hf⟩ := q_bd hf
      refine q_kV (M2 := m_X14_emptyFrom) (As := [.int v2]) (b := 512) (v2 := some (.int r2)) ok_X14_gapFor ok_X14_emptyFrom cv_X14_emptyFrom (ct_X14_emptyFrom_512 (d := 2) (Nat.le_refl _) hr2) rfl rfl (Or.inl rfl) rfl rfl rfl rfl (Nat.le_trans (Nat.le_of_ble_eq_true rfl) hd) hk hn (Nat.le_of_ble_eq_true rfl) (fun x hx => absurd hx List.not_mem_nil) (q_nmL0 _) (q_nmS0 _) rfl (pos' := 13) (st' := [.int r2]) (lI' := []) (lE' := []) rfl rfl rfl rfl ?_
      refine q_blf 1 [] (a := q_kc (t, r, 1, z, N, ext, rx, L) I E 17 [some (.ref 512), some (.int v1), some (.int v2)] [] [] []) (b := q_kc (t, r, 1, z, N, ext, rx, L) I E 15 [some (.ref 512), some (.int v1), some (.int v2)] [] [] []) (P := r2 < v1) ok_X14_gapFor rfl q_cn (fun h3 => ?_) (fun h3 => ?_)
      · have hf := q_ip h3 hf
        refine q_blk 2 [] (c' := q_kc (t, r, 1, z, N, ext, rx, L) I E 2 [some (.ref 512), some (.int v1), some (.int (v2 + 1))] [] [] []) ok_X14_gapFor rfl q_cn ?_
        exact ih (I := q_ws I []) (E := q_ws E []) hf (fun hz => q_Jmrg (q_mgw rfl rfl) (q_mgw rfl rfl) (hK0 hz)) (fun hz => q_Jmrg (q_mgw rfl rfl) (q_mgw rfl rfl) (hK1 hz))
      · have hf := q_in h3 hf
        refine q_less (ls' := [none, none, some (.int v2)]) (q_sb1 (q_sb1 (q_sb2 q_sb0))) ?_
        cases hf
        exact q_Jpad (q_pdw [] rfl rfl) (q_pdw [] rfl rfl) (hK1 rfl)
set_option maxHeartbeats 4000000 in
theorem ct_X14_gapFor_512 {g : q_G} {t : Nat} {r : Nat} {z : Nat} {N : Nat} {ext : Nat → q_Sh} {rx : Nat → Nat → Option Nat} {L : Nat → Nat → Int64} {d : Nat} (hd : 3 ≤ d)  {I : Nat → Nat → Int32} {E : Nat → Nat → Option Nat} {x1 : Int32} {r0 : Int32} (hf : f_X14_gapFor (I 499) (I 514) (I 515) (I 516) x1 = some r0) : q_Ct g m_X14_gapFor d 0 0 [] [.ref 512, .int x1] (q_hp (t, r, 1, z, N, ext, rx, L) I E) (fun o h' => o = .inl (some (.int r0)) ∧ h' = q_hp (t, r, 1, z, N, ext, rx, L) (q_ws I []) (q_ws E [])) := by
  rw [f_X14_gapFor] at hf
  refine q_Ct_of ok_X14_gapFor (Nat.le_of_ble_eq_true rfl) ?_ _ rfl rfl
  change q_J g m_X14_gapFor d 0 0 _ [] _ 0 0 (q_kc (t, r, 1, z, N, ext, rx, L) I E 0 [some (.ref 512), some (.int x1), none] [] [] [])
  refine q_blk 2 [] (c' := q_kc (t, r, 1, z, N, ext, rx, L) I E 2 [some (.ref 512), some (.int x1), some (.int (0 : Int32))] [] [] []) ok_X14_gapFor rfl q_cn ?_
  obtain ⟨r4, hr4, hf⟩ := q_bd hf
  refine lp_X14_gapFor_L2_512 (I := q_ws I []) (E := q_ws E []) hd (Nat.le_of_ble_eq_true rfl) (Nat.le_of_ble_eq_true rfl) 4096 hr4 ?_ ?_
  · intro hz0
    have hf := q_ip hz0 hf
    refine q_Jmrg (lI' := []) (lE' := []) (q_mgw rfl rfl) (q_mgw rfl rfl) ?_
    refine q_blk 1 [] (c' := q_kc (t, r, 1, z, N, ext, rx, L) I E 20 [none, none, none] [.int (-1 : Int32)] [] []) ok_X14_gapFor rfl q_cn ?_
    cases hf
    exact q_kri ok_X14_gapFor rfl rfl rfl (Nat.le_of_ble_eq_true rfl) (Nat.le_of_ble_eq_true rfl) ⟨rfl, q_hpe (q_pdw [] rfl rfl) (q_pdw [] rfl rfl)⟩
  · intro hz1
    have hf := q_in (fun h9 => absurd (hz1.symm.trans h9) (by decide)) hf
    refine q_Jmrg (lI' := []) (lE' := []) (q_mgw rfl rfl) (q_mgw rfl rfl) ?_
    refine q_blk 1 [] (c' := q_kc (t, r, 1, z, N, ext, rx, L) I E 16 [none, none, some (.int r4.2)] [.int r4.2] [] []) ok_X14_gapFor rfl q_cn ?_
    cases hf
    exact q_kri ok_X14_gapFor rfl rfl rfl (Nat.le_of_ble_eq_true rfl) (Nat.le_of_ble_eq_true rfl) ⟨rfl, q_hpe (q_pdw [] rfl rfl) (q_pdw [] rfl rfl)⟩
set_option maxHeartbeats 4000000 in
theorem ct_X14_takeOver_512_529_O {g : q_G} {t : Nat} {r : Nat} {z : Nat} {ext : Nat → q_Sh} {rx : Nat → Nat → Option Nat} {L : Nat → Nat → Int64} {d : Nat} (hd : 4 ≤ d)  {I : Nat → Nat → Int32} {E : Nat → Nat → Option Nat} {x1 : Int32} {x2 : Int32} {r0 : Int32 × (Nat → Int32) × (Nat → Int32) × (Nat → Int32) × (Nat → Int32) × (Nat → Int32) × (Nat → Int32) × (Nat → Int32)} (hf : f_X14_takeOver (I 492) (I 499) (I 510) (I 511) (I 512) (I 514) (I 515) (I 516) (I 518) (I 529) x1 x2 = some r0) : q_Ct g m_X14_takeOver d 0 0 [] [.ref 512, .int x1, .int x2, .ref 529] (q_hp (t, r, 1, z, 530, (q_ur ext 529 (1, 0, 136)), rx, L) I E) (fun o h' => o = .inl (some (.int r0.1)) ∧ h' = q_hp (t, r, 1, z, 530, (q_ur ext 529 (1, 0, 136)), rx, L) (q_ws I [(492, r0.2.1), (510, r0.2.2.1), (511, r0.2.2.2.1), (512, r0.2.2.2.2.1), (514, r0.2.2.2.2.2.1), (515, r0.2.2.2.2.2.2.1), (518, r0.2.2.2.2.2.2.2)]) (q_ws E [])) := by
  rw [f_X14_takeOver] at hf
  refine q_Ct_of ok_X14_takeOver (Nat.le_of_ble_eq_true rfl) ?_ _ rfl rfl
  change q_J g m_X14_takeOver d 0 0 _ [] _ 0 0 (q_kc (t, r, 1, z, 530, (q_ur ext 529 (1, 0, 136)), rx, L) I E 0 [some (.ref 512), some (.int x1), some (.int x2), some (.ref 529), none] [] [] [])
  refine q_blf 2 [] (a := q_kc (t, r, 1, z, 530, (q_ur ext 529 (1, 0, 136)), rx, L) I E 14 [some (.ref 512), some (.int x1), some (.int x2), some (.ref 529), none] [] [] []) (b := q_kc (t, r, 1, z, 530, (q_ur ext 529 (1, 0, 136)), rx, L) I E 3 [some (.ref 512), some (.int x1), some (.int x2), some (.ref 529), none] [] [] []) (P := x1 = (-1 : Int32)) ok_X14_takeOver rfl q_cn (fun h1 => ?_) (fun h1 => ?_)
  · have hf := q_ip h1 hf
    refine q_blk 1 [] (c' := q_kc (t, r, 1, z, 530, (q_ur ext 529 (1, 0, 136)), rx, L) I E 15 [some (.ref 512), some (.int x1), some (.int x2), some (.ref 529), none] [.int x2] [] []) ok_X14_takeOver rfl q_cn ?_
    cases hf
    exact q_kri ok_X14_takeOver rfl rfl rfl (Nat.le_of_ble_eq_true rfl) (Nat.le_of_ble_eq_true rfl) ⟨rfl, q_hpe (q_pdw [492, 510, 511, 512, 514, 515, 518] rfl rfl) (q_pdw [] rfl rfl)⟩
  · have hf := q_in h1 hf
    obtain ⟨j2, hj2, hf⟩ := q_bd hf
    refine q_blf 4 [j2] (a := q_kc (t, r, 1, z, 530, (q_ur ext 529 (1, 0, 136)), rx, L) I E 14 [some (.ref 512), some (.int x1), some (.int x2), some (.ref 529), none] [] [] []) (b := q_kc (t, r, 1, z, 530, (q_ur ext 529 (1, 0, 136)), rx, L) I E 8 [some (.ref 512), some (.int x1), some (.int x2), some (.ref 529), none] [] [] []) (P := ¬ ((I 529) j2) = (1 : Int32)) ok_X14_takeOver rfl (q_cc hj2 q_cn) (fun h3 => ?_) (fun h3 => ?_)
    · have hf := q_ip h3 hf
      refine q_blk 1 [] (c' := q_kc (t, r, 1, z, 530, (q_ur ext 529 (1, 0, 136)), rx, L) I E 15 [some (.ref 512), some (.int x1), some (.int x2), some (.ref 529), none] [.int x2] [] []) ok_X14_takeOver rfl q_cn ?_
      cases hf
      exact q_kri ok_X14_takeOver rfl rfl rfl (Nat.le_of_ble_eq_true rfl) (Nat.le_of_ble_eq_true rfl) ⟨rfl, q_hpe (q_pdw [492, 510, 511, 512, 514, 515, 518] rfl rfl) (q_pdw [] rfl rfl)⟩
    · have hf := q_in h3 hf
      obtain ⟨j4, hj4, hf⟩ := q_bd hf
      refine q_blf 5 [j4] (a := q_kc (t, r, 1, z, 530, (q_ur ext 529 (1, 0, 136)), rx, L) I E 16 [some (.ref 512), some (.int x1), some (.int x2), some (.ref 529), none] [] [] []) (b := q_kc (t, r, 1, z, 530, (q_ur ext 529 (1, 0, 136)), rx, L) I E 14 [some (.ref 512), some (.int x1), some (.int x2), some (.ref 529), none] [] [] []) (P := ((I 511) j4) = 0) ok_X14_takeOver rfl (q_cc hj4 q_cn) (fun h5 => ?_) (fun h5 => ?_)
      · have hf := q_ip h5 hf
        refine q_blk 2 [] (c' := q_kc (t, r, 1, z, 530, (q_ur ext 529 (1, 0, 136)), rx, L) I E 18 [some (.ref 512), some (.int x1), some (.int x2), some (.ref 529), none] [.int x1, .ref 512] [] []) ok_X14_takeOver rfl q_cn ?_
        obtain ⟨r6, hr6, hf⟩ := q_bd hf
        refine q_kV (M2 := m_X14_comeTo) (As := [.int x1]) (b := 512) (v2 := none) ok_X14_takeOver ok_X14_comeTo cv_X14_comeTo (ct_X14_comeTo_512 (d := 1) (Nat.le_refl _) hr6) rfl rfl (Or.inl rfl) rfl rfl rfl rfl (Nat.le_trans (Nat.le_of_ble_eq_true rfl) hd) (Nat.le_of_ble_eq_true rfl) (Nat.le_of_ble_eq_true rfl) (Nat.le_of_ble_eq_true rfl) (fun x hx => absurd hx List.not_mem_nil) (q_nmL0 _) (q_nmS0 _) rfl (pos' := 19) (st' := []) (lI' := [(492, r6.1), (510, r6.2.1), (511, r6.2.2)]) (lE' := []) rfl rfl (q_mgw rfl rfl) rfl ?_
        obtain ⟨j7, hj7, hf⟩ := q_bd hf
        refine q_blf 8 [j7] (a := q_kc (t, r, 1, z, 530, (q_ur ext 529 (1, 0, 136)), rx, L) I E 35 [some (.ref 512), some (.int x1), some (.int x2), some (.ref 529), none] [] [(492, r6.1), (510, r6.2.1), (511, r6.2.2)] []) (b := q_kc (t, r, 1, z, 530, (q_ur ext 529 (1, 0, 136)), rx, L) I E 28 [some (.ref 512), some (.int x1), some (.int x2), some (.ref 529), none] [] [(492, r6.1), (510, r6.2.1), (511, r6.2.2)] []) (P := ((I 518) j7) < ((I 499) 3)) ok_X14_takeOver rfl (q_cc hj7 q_cn) (fun h8 => ?_) (fun h8 => ?_)
        · have hf := q_ip h8 hf
          refine q_blf 4 [] (a := q_kc (t, r, 1, z, 530, (q_ur ext 529 (1, 0, 136)), rx, L) I E 58 [some (.ref 512), some (.int x1), some (.int x2), some (.ref 529), some (.int (-1 : Int32))] [] [(492, r6.1), (510, r6.2.1), (511, r6.2.2)] []) (b := q_kc (t, r, 1, z, 530, (q_ur ext 529 (1, 0, 136)), rx, L) I E 40 [some (.ref 512), some (.int x1), some (.int x2), some (.ref 529), some (.int (-1 : Int32))] [] [(492, r6.1), (510, r6.2.1), (511, r6.2.2)] []) (P := (-1 : Int32) = (-1 : Int32)) ok_X14_takeOver rfl q_cn (fun h9 => ?_) (fun h9 => ?_)
          · have hf := q_ip h9 hf
            obtain ⟨j10, hj10, hf⟩ := q_bd hf
            obtain ⟨j11, hj11, hf⟩ := q_bd hf
            obtain ⟨j12, hj12, hf⟩ := q_bd hf
            obtain ⟨j13, hj13, hf⟩ := q_bd hf
            obtain ⟨j14, hj14, hf⟩ := q_bd hf
            refine q_blk 24 [j10, j11, j12, j13, j14] (c' := q_kc (t, r, 1, z, 530, (q_ur ext 529 (1, 0, 136)), rx, L) I E 82 [some (.ref 512), some (.int x1), some (.int x2), some (.ref 529), some (.int (-1 : Int32))] [.int (x2 + ((I 516) j14))] [(492, r6.1), (510, r6.2.1), (511, r6.2.2), (514, (q_up (I 514) j10 (1 : Int32))), (515, (q_up (I 515) j11 x2)), (518, (q_up (I 518) j13 (((I 518) j12) + (1 : Int32))))] []) ok_X14_takeOver rfl (q_cc hj14 (q_cc hj13 (q_cc hj12 (q_cc hj11 (q_cc hj10 q_cn))))) ?_
            cases hf
            exact q_kri ok_X14_takeOver rfl rfl rfl (Nat.le_of_ble_eq_true rfl) (Nat.le_of_ble_eq_true rfl) ⟨rfl, q_hpe (q_pdw [492, 510, 511, 512, 514, 515, 518] rfl rfl) (q_pdw [] rfl rfl)⟩
          · have hf := q_in h9 hf
            obtain ⟨j15, hj15, hf⟩ := q_bd hf
            obtain ⟨j16, hj16, hf⟩ := q_bd hf
            refine q_blk 17 [j15, j16] (c' := q_kc (t, r, 1, z, 530, (q_ur ext 529 (1, 0, 136)), rx, L) I E 57 [some (.ref 512), some (.int x1), some (.int x2), some (.ref 529), some (.int (-1 : Int32))] [.int x2] [(492, r6.1), (510, r6.2.1), (511, r6.2.2), (512, (q_up (I 512) 4 (((I 512) 4) + (1 : Int32)))), (514, (q_up (I 514) j15 (2 : Int32))), (515, (q_up (I 515) j16 (-1 : Int32)))] []) ok_X14_takeOver rfl (q_cc hj16 (q_cc hj15 q_cn)) ?_
            cases hf
            exact q_kri ok_X14_takeOver rfl rfl rfl (Nat.le_of_ble_eq_true rfl) (Nat.le_of_ble_eq_true rfl) ⟨rfl, q_hpe (q_pdw [492, 510, 511, 512, 514, 515, 518] rfl rfl) (q_pdw [] rfl rfl)⟩
        · have hf := q_in h8 hf
          obtain ⟨j17, hj17, hf⟩ := q_bd hf
          refine q_blk 5 [j17] (c' := q_kc (t, r, 1, z, 530, (q_ur ext 529 (1, 0, 136)), rx, L) I E 33 [some (.ref 512), some (.int x1), some (.int x2), some (.ref 529), none] [.int ((I 516) j17), .ref 512] [(492, r6.1), (510, r6.2.1), (511, r6.2.2)] []) ok_X14_takeOver rfl (q_cc hj17 q_cn) ?_
          obtain ⟨r18, hr18, hf⟩ := q_bd hf
          refine q_kV (M2 := m_X14_gapFor) (As := [.int ((I 516) j17)]) (b := 512) (v2 := some (.int r18)) ok_X14_takeOver ok_X14_gapFor cv_X14_gapFor (ct_X14_gapFor_512 (d := 3) (Nat.le_refl _) hr18) rfl rfl (Or.inl rfl) rfl rfl rfl rfl (Nat.le_trans (Nat.le_of_ble_eq_true rfl) hd) (Nat.le_of_ble_eq_true rfl) (Nat.le_of_ble_eq_true rfl) (Nat.le_of_ble_eq_true rfl) (fun x hx => absurd hx List.not_mem_nil) (q_nmL0 _) (q_nmS0 _) rfl (pos' := 34) (st' := [.int r18]) (lI' := [(492, r6.1), (510, r6.2.1), (511, r6.2.2)]) (lE' := []) rfl rfl rfl rfl ?_
          refine q_blf 4 [] (a := q_kc (t, r, 1, z, 530, (q_ur ext 529 (1, 0, 136)), rx, L) I E 58 [some (.ref 512), some (.int x1), some (.int x2), some (.ref 529), some (.int r18)] [] [(492, r6.1), (510, r6.2.1), (511, r6.2.2)] []) (b := q_kc (t, r, 1, z, 530, (q_ur ext 529 (1, 0, 136)), rx, L) I E 40 [some (.ref 512), some (.int x1), some (.int x2), some (.ref 529), some (.int r18)] [] [(492, r6.1), (510, r6.2.1), (511, r6.2.2)] []) (P := r18 = (-1 : Int32)) ok_X14_takeOver rfl q_cn (fun h19 => ?_) (fun h19 => ?_)
          · have hf := q_ip h19 hf
            obtain ⟨j20, hj20, hf⟩ := q_bd hf
            obtain ⟨j21, hj21, hf⟩ := q_bd hf
            obtain ⟨j22, hj22, hf⟩ := q_bd hf
            obtain ⟨j23, hj23, hf⟩ := q_bd hf
            obtain ⟨j24, hj24, hf⟩ := q_bd hf
            refine q_blk 24 [j20, j21, j22, j23, j24] (c' := q_kc (t, r, 1, z, 530, (q_ur ext 529 (1, 0, 136)), rx, L) I E 82 [some (.ref 512), some (.int x1), some (.int x2), some (.ref 529), some (.int r18)] [.int (x2 + ((I 516) j24))] [(492, r6.1), (510, r6.2.1), (511, r6.2.2), (514, (q_up (I 514) j20 (1 : Int32))), (515, (q_up (I 515) j21 x2)), (518, (q_up (I 518) j23 (((I 518) j22) + (1 : Int32))))] []) ok_X14_takeOver rfl (q_cc hj24 (q_cc hj23 (q_cc hj22 (q_cc hj21 (q_cc hj20 q_cn))))) ?_
            cases hf
            exact q_kri ok_X14_takeOver rfl rfl rfl (Nat.le_of_ble_eq_true rfl) (Nat.le_of_ble_eq_true rfl) ⟨rfl, q_hpe (q_pdw [492, 510, 511, 512, 514, 515, 518] rfl rfl) (q_pdw [] rfl rfl)⟩
          · have hf := q_in h19 hf
            obtain ⟨j25, hj25, hf⟩ := q_bd hf
            obtain ⟨j26, hj26, hf⟩ := q_bd hf
            refine q_blk 17 [j25, j26] (c' := q_kc (t, r, 1, z, 530, (q_ur ext 529 (1, 0, 136)), rx, L) I E 57 [some (.ref 512), some (.int x1), some (.int x2), some (.ref 529), some (.int r18)] [.int x2] [(492, r6.1), (510, r6.2.1), (511, r6.2.2), (512, (q_up (I 512) 4 (((I 512) 4) + (1 : Int32)))), (514, (q_up (I 514) j25 (2 : Int32))), (515, (q_up (I 515) j26 r18))] []) ok_X14_takeOver rfl (q_cc hj26 (q_cc hj25 q_cn)) ?_
            cases hf
            exact q_kri ok_X14_takeOver rfl rfl rfl (Nat.le_of_ble_eq_true rfl) (Nat.le_of_ble_eq_true rfl) ⟨rfl, q_hpe (q_pdw [492, 510, 511, 512, 514, 515, 518] rfl rfl) (q_pdw [] rfl rfl)⟩
      · have hf := q_in h5 hf
        refine q_blk 1 [] (c' := q_kc (t, r, 1, z, 530, (q_ur ext 529 (1, 0, 136)), rx, L) I E 15 [some (.ref 512), some (.int x1), some (.int x2), some (.ref 529), none] [.int x2] [] []) ok_X14_takeOver rfl q_cn ?_
        cases hf
        exact q_kri ok_X14_takeOver rfl rfl rfl (Nat.le_of_ble_eq_true rfl) (Nat.le_of_ble_eq_true rfl) ⟨rfl, q_hpe (q_pdw [492, 510, 511, 512, 514, 515, 518] rfl rfl) (q_pdw [] rfl rfl)⟩
set_option maxHeartbeats 4000000 in
theorem lp_X14_takeRopes_L4_512_529_O {g : q_G} {d mc ms : Nat} {h0 : q_H} {Q : (Option Value ⊕ String) → q_H → Prop} {k n : Nat} {t : Nat} {r : Nat} {z : Nat} {ext : Nat → q_Sh} {rx : Nat → Nat → Option Nat} {L : Nat → Nat → Int64} (hd : 5 ≤ d) (hk : k ≤ mc) (hn : n ≤ ms)  {v1 : Int32} : ∀ (fu : Nat) {I : Nat → Nat → Int32} {E : Nat → Nat → Option Nat} {v4 : Int32} {v5 : Int32} {r0 : Int32 × (Nat → Int32) × (Nat → Int32) × (Nat → Int32) × (Nat → Int32) × (Nat → Int32) × (Nat → Int32) × (Nat → Int32)} (hf : f_X14_takeRopes_L4 (I 499) (I 516) (I 517) (I 519) (I 529) v1 fu (I 492) (I 510) (I 511) (I 512) (I 514) (I 515) (I 518) v4 v5 = some r0) (hK0 : q_J g m_X14_takeRopes d mc ms h0 [] Q k n (q_kc (t, r, 1, z, 530, (q_ur ext 529 (1, 0, 136)), rx, L) I E 25 [none, none, none, none, some (.int r0.1), none] [] [(492, r0.2.1), (510, r0.2.2.1), (511, r0.2.2.2.1), (512, r0.2.2.2.2.1), (514, r0.2.2.2.2.2.1), (515, r0.2.2.2.2.2.2.1), (518, r0.2.2.2.2.2.2.2)] [])), q_J g m_X14_takeRopes d mc ms h0 [] Q k n (4, [some (.ref 512), some (.int v1), none, some (.ref 529), some (.int v4), some (.int v5)], [], q_hp (t, r, 1, z, 530, (q_ur ext 529 (1, 0, 136)), rx, L) I E) := by
  intro fu
  induction fu with
  | zero =>
    intro I E v4 v5 r0 hf hK0
    rw [f_X14_takeRopes_L4] at hf
    cases hf
  | succ fu ih =>
    intro I E v4 v5 r0 hf hK0
    rw [f_X14_takeRopes_L4] at hf
    change q_J g m_X14_takeRopes d mc ms h0 [] Q k n (q_kc (t, r, 1, z, 530, (q_ur ext 529 (1, 0, 136)), rx, L) I E 4 [some (.ref 512), some (.int v1), none, some (.ref 529), some (.int v4), some (.int v5)] [] [] [])
    obtain ⟨j1, hj1, hf⟩ := q_bd hf
    refine q_blf 5 [j1] (a := q_kc (t, r, 1, z, 530, (q_ur ext 529 (1, 0, 136)), rx, L) I E 25 [some (.ref 512), some (.int v1), none, some (.ref 529), some (.int v4), some (.int v5)] [] [] []) (b := q_kc (t, r, 1, z, 530, (q_ur ext 529 (1, 0, 136)), rx, L) I E 10 [some (.ref 512), some (.int v1), none, some (.ref 529), some (.int v4), some (.int v5)] [] [] []) (P := ((I 517) j1) ≤ v5) ok_X14_takeRopes rfl (q_cc hj1 q_cn) (fun h2 => ?_) (fun h2 => ?_)
    · have hf := q_ip h2 hf
      refine q_less (ls' := [none, none, none, none, some (.int v4), none]) (q_sb1 (q_sb1 (q_sb1 (q_sb1 (q_sb2 (q_sb1 q_sb0)))))) ?_
      cases hf
      exact q_Jpad (q_pdw [492, 510, 511, 512, 514, 515, 518] rfl rfl) (q_pdw [] rfl rfl) hK0
    · have hf := q_in h2 hf
      obtain ⟨j3, hj3, hf⟩ := q_bd hf
      refine q_blk 11 [j3] (c' := q_kc (t, r, 1, z, 530, (q_ur ext 529 (1, 0, 136)), rx, L) I E 21 [some (.ref 512), some (.int v1), none, some (.ref 529), some (.int v4), some (.int v5)] [.ref 529, .int v4, .int ((I 519) j3), .ref 512] [] []) ok_X14_takeRopes rfl (q_cc hj3 q_cn) ?_
      obtain ⟨r4, hr4, hf⟩ := q_bd hf
      refine q_kV (M2 := m_X14_takeOver) (As := [.int ((I 519) j3), .int v4, .ref 529]) (b := 512) (v2 := some (.int r4.1)) ok_X14_takeRopes ok_X14_takeOver cv_X14_takeOver (ct_X14_takeOver_512_529_O (d := 4) (Nat.le_refl _) hr4) rfl rfl (Or.inl rfl) rfl rfl rfl rfl (Nat.le_trans (Nat.le_of_ble_eq_true rfl) hd) hk hn (Nat.le_of_ble_eq_true rfl) (fun x hx => absurd hx List.not_mem_nil) (q_nmL0 _) (q_nmS0 _) rfl (pos' := 22) (st' := [.int r4.1]) (lI' := [(492, r4.2.1), (510, r4.2.2.1), (511, r4.2.2.2.1), (512, r4.2.2.2.2.1), (514, r4.2.2.2.2.2.1), (515, r4.2.2.2.2.2.2.1), (518, r4.2.2.2.2.2.2.2)]) (lE' := []) rfl rfl (q_mgw rfl rfl) rfl ?_
      refine q_blk 3 [] (c' := q_kc (t, r, 1, z, 530, (q_ur ext 529 (1, 0, 136)), rx, L) I E 4 [some (.ref 512), some (.int v1), none, some (.ref 529), some (.int r4.1), some (.int (v5 + 1))] [] [(492, r4.2.1), (510, r4.2.2.1), (511, r4.2.2.2.1), (512, r4.2.2.2.2.1), (514, r4.2.2.2.2.2.1), (515, r4.2.2.2.2.2.2.1), (518, r4.2.2.2.2.2.2.2)] []) ok_X14_takeRopes rfl q_cn ?_
      exact ih (I := q_ws I [(492, r4.2.1), (510, r4.2.2.1), (511, r4.2.2.2.1), (512, r4.2.2.2.2.1), (514, r4.2.2.2.2.2.1), (515, r4.2.2.2.2.2.2.1), (518, r4.2.2.2.2.2.2.2)]) (E := q_ws E []) hf (q_Jmrg (q_mgw rfl rfl) (q_mgw rfl rfl) hK0)
set_option maxHeartbeats 4000000 in
theorem ct_X14_takeRopes_512_529_O {g : q_G} {t : Nat} {r : Nat} {z : Nat} {ext : Nat → q_Sh} {rx : Nat → Nat → Option Nat} {L : Nat → Nat → Int64} {d : Nat} (hd : 5 ≤ d)  {I : Nat → Nat → Int32} {E : Nat → Nat → Option Nat} {x1 : Int32} {x2 : Int32} {r0 : Int32 × (Nat → Int32) × (Nat → Int32) × (Nat → Int32) × (Nat → Int32) × (Nat → Int32) × (Nat → Int32) × (Nat → Int32)} (hf : f_X14_takeRopes (I 492) (I 499) (I 510) (I 511) (I 512) (I 514) (I 515) (I 516) (I 517) (I 518) (I 519) (I 529) x1 x2 = some r0) : q_Ct g m_X14_takeRopes d 0 0 [] [.ref 512, .int x1, .int x2, .ref 529] (q_hp (t, r, 1, z, 530, (q_ur ext 529 (1, 0, 136)), rx, L) I E) (fun o h' => o = .inl (some (.int r0.1)) ∧ h' = q_hp (t, r, 1, z, 530, (q_ur ext 529 (1, 0, 136)), rx, L) (q_ws I [(492, r0.2.1), (510, r0.2.2.1), (511, r0.2.2.2.1), (512, r0.2.2.2.2.1), (514, r0.2.2.2.2.2.1), (515, r0.2.2.2.2.2.2.1), (518, r0.2.2.2.2.2.2.2)]) (q_ws E [])) := by
  rw [f_X14_takeRopes] at hf
  refine q_Ct_of ok_X14_takeRopes (Nat.le_of_ble_eq_true rfl) ?_ _ rfl rfl
  change q_J g m_X14_takeRopes d 0 0 _ [] _ 0 0 (q_kc (t, r, 1, z, 530, (q_ur ext 529 (1, 0, 136)), rx, L) I E 0 [some (.ref 512), some (.int x1), some (.int x2), some (.ref 529), none, none] [] [] [])
  refine q_blk 4 [] (c' := q_kc (t, r, 1, z, 530, (q_ur ext 529 (1, 0, 136)), rx, L) I E 4 [some (.ref 512), some (.int x1), some (.int x2), some (.ref 529), some (.int x2), some (.int (0 : Int32))] [] [] []) ok_X14_takeRopes rfl q_cn ?_
  refine q_less (ls' := [some (.ref 512), some (.int x1), none, some (.ref 529), some (.int x2), some (.int (0 : Int32))]) (q_sb2 (q_sb2 (q_sb1 (q_sb2 (q_sb2 (q_sb2 q_sb0)))))) ?_
  obtain ⟨r5, hr5, hf⟩ := q_bd hf
  refine lp_X14_takeRopes_L4_512_529_O (I := q_ws I []) (E := q_ws E []) hd (Nat.le_of_ble_eq_true rfl) (Nat.le_of_ble_eq_true rfl) 4096 hr5 ?_
  refine q_Jmrg (lI' := [(492, r5.2.1), (510, r5.2.2.1), (511, r5.2.2.2.1), (512, r5.2.2.2.2.1), (514, r5.2.2.2.2.2.1), (515, r5.2.2.2.2.2.2.1), (518, r5.2.2.2.2.2.2.2)]) (lE' := []) (q_mgw rfl rfl) (q_mgw rfl rfl) ?_
  refine q_blk 1 [] (c' := q_kc (t, r, 1, z, 530, (q_ur ext 529 (1, 0, 136)), rx, L) I E 26 [none, none, none, none, some (.int r5.1), none] [.int r5.1] [(492, r5.2.1), (510, r5.2.2.1), (511, r5.2.2.2.1), (512, r5.2.2.2.2.1), (514, r5.2.2.2.2.2.1), (515, r5.2.2.2.2.2.2.1), (518, r5.2.2.2.2.2.2.2)] []) ok_X14_takeRopes rfl q_cn ?_
  cases hf
  exact q_kri ok_X14_takeRopes rfl rfl rfl (Nat.le_of_ble_eq_true rfl) (Nat.le_of_ble_eq_true rfl) ⟨rfl, q_hpe (q_pdw [492, 510, 511, 512, 514, 515, 518] rfl rfl) (q_pdw [] rfl rfl)⟩
set_option maxHeartbeats 4000000 in
theorem lp_X14_copyAll_L16_512 {g : q_G} {d mc ms : Nat} {h0 : q_H} {Q : (Option Value ⊕ String) → q_H → Prop} {k n : Nat} {t : Nat} {r : Nat} {m : Nat} {z : Nat} {ext : Nat → q_Sh} {rx : Nat → Nat → Option Nat} {L : Nat → Nat → Int64} (hd : 6 ≤ d) (hk : k ≤ mc) (hn : n ≤ ms)  {v2 : Int32} : ∀ (fu : Nat) {I : Nat → Nat → Int32} {E : Nat → Nat → Option Nat} {v3 : Int32} {r0 : (Nat → Int32)} (hf : f_X14_copyAll_L16 (I 529) fu (I 514) v3 = some r0) (hK0 : q_J g m_X14_copyAll d mc ms h0 [] Q k n (q_kc (t, r, m, z, 530, (q_ur ext 529 (1, 0, 136)), rx, L) I E 31 [some (.ref 512), some (.ref 529), some (.int v2), none, none, none] [] [(514, r0)] [])), q_J g m_X14_copyAll d mc ms h0 [] Q k n (16, [some (.ref 512), some (.ref 529), some (.int v2), some (.int v3), none, none], [], q_hp (t, r, m, z, 530, (q_ur ext 529 (1, 0, 136)), rx, L) I E) := by
  intro fu
  induction fu with
  | zero =>
    intro I E v3 r0 hf hK0
    rw [f_X14_copyAll_L16] at hf
    cases hf
  | succ fu ih =>
    intro I E v3 r0 hf hK0
    rw [f_X14_copyAll_L16] at hf
    change q_J g m_X14_copyAll d mc ms h0 [] Q k n (q_kc (t, r, m, z, 530, (q_ur ext 529 (1, 0, 136)), rx, L) I E 16 [some (.ref 512), some (.ref 529), some (.int v2), some (.int v3), none, none] [] [] [])
    refine q_blf 2 [] (a := q_kc (t, r, m, z, 530, (q_ur ext 529 (1, 0, 136)), rx, L) I E 31 [some (.ref 512), some (.ref 529), some (.int v2), some (.int v3), none, none] [] [] []) (b := q_kc (t, r, m, z, 530, (q_ur ext 529 (1, 0, 136)), rx, L) I E 19 [some (.ref 512), some (.ref 529), some (.int v2), some (.int v3), none, none] [] [] []) (P := (136 : Int32) ≤ v3) ok_X14_copyAll rfl q_cn (fun h1 => ?_) (fun h1 => ?_)
    · have hf := q_ip h1 hf
      refine q_less (ls' := [some (.ref 512), some (.ref 529), some (.int v2), none, none, none]) (q_sb2 (q_sb2 (q_sb2 (q_sb1 (q_sb1 (q_sb1 q_sb0)))))) ?_
      cases hf
      exact q_Jpad (q_pdw [514] rfl rfl) (q_pdw [] rfl rfl) hK0
    · have hf := q_in h1 hf
      obtain ⟨j2, hj2, hf⟩ := q_bd hf
      refine q_blf 4 [j2] (a := q_kc (t, r, m, z, 530, (q_ur ext 529 (1, 0, 136)), rx, L) I E 29 [some (.ref 512), some (.ref 529), some (.int v2), some (.int v3), none, none] [] [] []) (b := q_kc (t, r, m, z, 530, (q_ur ext 529 (1, 0, 136)), rx, L) I E 24 [some (.ref 512), some (.ref 529), some (.int v2), some (.int v3), none, none] [] [] []) (P := ¬ ((I 529) j2) = (1 : Int32)) ok_X14_copyAll rfl (q_cc hj2 q_cn) (fun h3 => ?_) (fun h3 => ?_)
      · have hf := q_ip h3 hf
        refine q_blk 2 [] (c' := q_kc (t, r, m, z, 530, (q_ur ext 529 (1, 0, 136)), rx, L) I E 16 [some (.ref 512), some (.ref 529), some (.int v2), some (.int (v3 + 1)), none, none] [] [] []) ok_X14_copyAll rfl q_cn ?_
        exact ih (I := q_ws I []) (E := q_ws E []) hf (q_Jmrg (q_mgw rfl rfl) (q_mgw rfl rfl) hK0)
      · have hf := q_in h3 hf
        obtain ⟨j4, hj4, hf⟩ := q_bd hf
        refine q_blk 7 [j4] (c' := q_kc (t, r, m, z, 530, (q_ur ext 529 (1, 0, 136)), rx, L) I E 16 [some (.ref 512), some (.ref 529), some (.int v2), some (.int (v3 + 1)), none, none] [] [(514, (q_up (I 514) j4 (0 : Int32)))] []) ok_X14_copyAll rfl (q_cc hj4 q_cn) ?_
        exact ih (I := q_ws I [(514, (q_up (I 514) j4 (0 : Int32)))]) (E := q_ws E []) hf (q_Jmrg (q_mgw rfl rfl) (q_mgw rfl rfl) hK0)
set_option maxHeartbeats 4000000 in
theorem lp_X14_copyAll_L88_512 {g : q_G} {d mc ms : Nat} {h0 : q_H} {Q : (Option Value ⊕ String) → q_H → Prop} {k n : Nat} {t : Nat} {r : Nat} {z : Nat} {ext : Nat → q_Sh} {rx : Nat → Nat → Option Nat} {L : Nat → Nat → Int64} (hd : 6 ≤ d) (hk : k ≤ mc) (hn : n ≤ ms)  {v2 : Int32} : ∀ (fu : Nat) {I : Nat → Nat → Int32} {E : Nat → Nat → Option Nat} {v3 : Int32} {v4 : Int32} {r0 : (Nat → Int32) × (Nat → Int32) × (Nat → Int32) × (Nat → Int32) × (Nat → Int32) × (Nat → Int32) × (Nat → Int32)} (hf : f_X14_copyAll_L88 (I 499) (I 516) (I 517) (I 519) (I 529) fu (I 492) (I 510) (I 511) (I 512) (I 514) (I 515) (I 518) v3 v4 = some r0) (hK0 : q_J g m_X14_copyAll d mc ms h0 [] Q k n (q_kc (t, r, 1, z, 530, (q_ur ext 529 (1, 0, 136)), rx, L) I E 105 [some (.ref 512), none, some (.int v2), none, none, none] [] [(492, r0.1), (510, r0.2.1), (511, r0.2.2.1), (512, r0.2.2.2.1), (514, r0.2.2.2.2.1), (515, r0.2.2.2.2.2.1), (518, r0.2.2.2.2.2.2)] [])), q_J g m_X14_copyAll d mc ms h0 [] Q k n (88, [some (.ref 512), some (.ref 529), some (.int v2), some (.int v3), some (.int v4), none], [], q_hp (t, r, 1, z, 530, (q_ur ext 529 (1, 0, 136)), rx, L) I E) := by
  intro fu
  induction fu with
  | zero =>
    intro I E v3 v4 r0 hf hK0
    rw [f_X14_copyAll_L88] at hf
    cases hf
  | succ fu ih =>
    intro I E v3 v4 r0 hf hK0
    rw [f_X14_copyAll_L88] at hf
    change q_J g m_X14_copyAll d mc ms h0 [] Q k n (q_kc (t, r, 1, z, 530, (q_ur ext 529 (1, 0, 136)), rx, L) I E 88 [some (.ref 512), some (.ref 529), some (.int v2), some (.int v3), some (.int v4), none] [] [] [])
    refine q_blf 4 [] (a := q_kc (t, r, 1, z, 530, (q_ur ext 529 (1, 0, 136)), rx, L) I E 105 [some (.ref 512), some (.ref 529), some (.int v2), some (.int v3), some (.int v4), none] [] [] []) (b := q_kc (t, r, 1, z, 530, (q_ur ext 529 (1, 0, 136)), rx, L) I E 93 [some (.ref 512), some (.ref 529), some (.int v2), some (.int v3), some (.int v4), none] [] [] []) (P := ((I 492) 16) ≤ v4) ok_X14_copyAll rfl q_cn (fun h5 => ?_) (fun h5 => ?_)
    · have hf := q_ip h5 hf
      refine q_less (ls' := [some (.ref 512), none, some (.int v2), none, none, none]) (q_sb2 (q_sb1 (q_sb2 (q_sb1 (q_sb1 (q_sb1 q_sb0)))))) ?_
      cases hf
      exact q_Jpad (q_pdw [492, 510, 511, 512, 514, 515, 518] rfl rfl) (q_pdw [] rfl rfl) hK0
    · have hf := q_in h5 hf
      obtain ⟨j6, hj6, hf⟩ := q_bd hf
      refine q_blk 8 [j6] (c' := q_kc (t, r, 1, z, 530, (q_ur ext 529 (1, 0, 136)), rx, L) I E 101 [some (.ref 512), some (.ref 529), some (.int v2), some (.int v3), some (.int v4), none] [.ref 529, .int v3, .int ((I 510) j6), .ref 512] [] []) ok_X14_copyAll rfl (q_cc hj6 q_cn) ?_
      obtain ⟨r7, hr7, hf⟩ := q_bd hf
      refine q_kV (M2 := m_X14_takeRopes) (As := [.int ((I 510) j6), .int v3, .ref 529]) (b := 512) (v2 := some (.int r7.1)) ok_X14_copyAll ok_X14_takeRopes cv_X14_takeRopes (ct_X14_takeRopes_512_529_O (d := 5) (Nat.le_refl _) hr7) rfl rfl (Or.inl rfl) rfl rfl rfl rfl (Nat.le_trans (Nat.le_of_ble_eq_true rfl) hd) hk hn (Nat.le_of_ble_eq_true rfl) (fun x hx => absurd hx List.not_mem_nil) (q_nmL0 _) (q_nmS0 _) rfl (pos' := 102) (st' := [.int r7.1]) (lI' := [(492, r7.2.1), (510, r7.2.2.1), (511, r7.2.2.2.1), (512, r7.2.2.2.2.1), (514, r7.2.2.2.2.2.1), (515, r7.2.2.2.2.2.2.1), (518, r7.2.2.2.2.2.2.2)]) (lE' := []) rfl rfl (q_mgw rfl rfl) rfl ?_
      refine q_blk 3 [] (c' := q_kc (t, r, 1, z, 530, (q_ur ext 529 (1, 0, 136)), rx, L) I E 88 [some (.ref 512), some (.ref 529), some (.int v2), some (.int r7.1), some (.int (v4 + 1)), none] [] [(492, r7.2.1), (510, r7.2.2.1), (511, r7.2.2.2.1), (512, r7.2.2.2.2.1), (514, r7.2.2.2.2.2.1), (515, r7.2.2.2.2.2.2.1), (518, r7.2.2.2.2.2.2.2)] []) ok_X14_copyAll rfl q_cn ?_
      exact ih (I := q_ws I [(492, r7.2.1), (510, r7.2.2.1), (511, r7.2.2.2.1), (512, r7.2.2.2.2.1), (514, r7.2.2.2.2.2.1), (515, r7.2.2.2.2.2.2.1), (518, r7.2.2.2.2.2.2.2)]) (E := q_ws E []) hf (q_Jmrg (q_mgw rfl rfl) (q_mgw rfl rfl) hK0)
set_option maxHeartbeats 4000000 in
theorem lp_X14_copyAll_L35_512 {g : q_G} {d mc ms : Nat} {h0 : q_H} {Q : (Option Value ⊕ String) → q_H → Prop} {k n : Nat} {t : Nat} {r : Nat} {z : Nat} {ext : Nat → q_Sh} {rx : Nat → Nat → Option Nat} {L : Nat → Nat → Int64} (hd : 6 ≤ d) (hk : k ≤ mc) (hn : n ≤ ms)  {v2 : Int32} : ∀ (fu : Nat) {I : Nat → Nat → Int32} {E : Nat → Nat → Option Nat} {v3 : Int32} {v4 : Int32} {r0 : Int32 × (Nat → Int32) × (Nat → Int32) × (Nat → Int32) × (Nat → Int32) × (Nat → Int32) × (Nat → Int32) × (Nat → Int32)} (hf : f_X14_copyAll_L35 (I 499) (I 513) (I 516) (I 529) fu (I 492) (I 510) (I 511) (I 512) (I 514) (I 515) (I 518) v3 v4 = some r0) (hK0 : q_J g m_X14_copyAll d mc ms h0 [] Q k n (q_kc (t, r, 1, z, 530, (q_ur ext 529 (1, 0, 136)), rx, L) I E 52 [some (.ref 512), some (.ref 529), some (.int v2), some (.int r0.1), none, none] [] [(492, r0.2.1), (510, r0.2.2.1), (511, r0.2.2.2.1), (512, r0.2.2.2.2.1), (514, r0.2.2.2.2.2.1), (515, r0.2.2.2.2.2.2.1), (518, r0.2.2.2.2.2.2.2)] [])), q_J g m_X14_copyAll d mc ms h0 [] Q k n (35, [some (.ref 512), some (.ref 529), some (.int v2), some (.int v3), some (.int v4), none], [], q_hp (t, r, 1, z, 530, (q_ur ext 529 (1, 0, 136)), rx, L) I E) := by
  intro fu
  induction fu with
  | zero =>
    intro I E v3 v4 r0 hf hK0
    rw [f_X14_copyAll_L35] at hf
    cases hf
  | succ fu ih =>
    intro I E v3 v4 r0 hf hK0
    rw [f_X14_copyAll_L35] at hf
    change q_J g m_X14_copyAll d mc ms h0 [] Q k n (q_kc (t, r, 1, z, 530, (q_ur ext 529 (1, 0, 136)), rx, L) I E 35 [some (.ref 512), some (.ref 529), some (.int v2), some (.int v3), some (.int v4), none] [] [] [])
    refine q_blf 5 [] (a := q_kc (t, r, 1, z, 530, (q_ur ext 529 (1, 0, 136)), rx, L) I E 52 [some (.ref 512), some (.ref 529), some (.int v2), some (.int v3), some (.int v4), none] [] [] []) (b := q_kc (t, r, 1, z, 530, (q_ur ext 529 (1, 0, 136)), rx, L) I E 41 [some (.ref 512), some (.ref 529), some (.int v2), some (.int v3), some (.int v4), none] [] [] []) (P := ((I 499) 0) ≤ v4) ok_X14_copyAll rfl q_cn (fun h8 => ?_) (fun h8 => ?_)
    · have hf := q_ip h8 hf
      refine q_less (ls' := [some (.ref 512), some (.ref 529), some (.int v2), some (.int v3), none, none]) (q_sb2 (q_sb2 (q_sb2 (q_sb2 (q_sb1 (q_sb1 q_sb0)))))) ?_
      cases hf
      exact q_Jpad (q_pdw [492, 510, 511, 512, 514, 515, 518] rfl rfl) (q_pdw [] rfl rfl) hK0
    · have hf := q_in h8 hf
      obtain ⟨j9, hj9, hf⟩ := q_bd hf
      refine q_blk 7 [j9] (c' := q_kc (t, r, 1, z, 530, (q_ur ext 529 (1, 0, 136)), rx, L) I E 48 [some (.ref 512), some (.ref 529), some (.int v2), some (.int v3), some (.int v4), none] [.ref 529, .int v3, .int ((I 513) j9), .ref 512] [] []) ok_X14_copyAll rfl (q_cc hj9 q_cn) ?_
      obtain ⟨r10, hr10, hf⟩ := q_bd hf
      refine q_kV (M2 := m_X14_takeOver) (As := [.int ((I 513) j9), .int v3, .ref 529]) (b := 512) (v2 := some (.int r10.1)) ok_X14_copyAll ok_X14_takeOver cv_X14_takeOver (ct_X14_takeOver_512_529_O (d := 4) (Nat.le_refl _) hr10) rfl rfl (Or.inl rfl) rfl rfl rfl rfl (Nat.le_trans (Nat.le_of_ble_eq_true rfl) hd) hk hn (Nat.le_of_ble_eq_true rfl) (fun x hx => absurd hx List.not_mem_nil) (q_nmL0 _) (q_nmS0 _) rfl (pos' := 49) (st' := [.int r10.1]) (lI' := [(492, r10.2.1), (510, r10.2.2.1), (511, r10.2.2.2.1), (512, r10.2.2.2.2.1), (514, r10.2.2.2.2.2.1), (515, r10.2.2.2.2.2.2.1), (518, r10.2.2.2.2.2.2.2)]) (lE' := []) rfl rfl (q_mgw rfl rfl) rfl ?_
      refine q_blk 3 [] (c' := q_kc (t, r, 1, z, 530, (q_ur ext 529 (1, 0, 136)), rx, L) I E 35 [some (.ref 512), some (.ref 529), some (.int v2), some (.int r10.1), some (.int (v4 + 1)), none] [] [(492, r10.2.1), (510, r10.2.2.1), (511, r10.2.2.2.1), (512, r10.2.2.2.2.1), (514, r10.2.2.2.2.2.1), (515, r10.2.2.2.2.2.2.1), (518, r10.2.2.2.2.2.2.2)] []) ok_X14_copyAll rfl q_cn ?_
      exact ih (I := q_ws I [(492, r10.2.1), (510, r10.2.2.1), (511, r10.2.2.2.1), (512, r10.2.2.2.2.1), (514, r10.2.2.2.2.2.1), (515, r10.2.2.2.2.2.2.1), (518, r10.2.2.2.2.2.2.2)]) (E := q_ws E []) hf (q_Jmrg (q_mgw rfl rfl) (q_mgw rfl rfl) hK0)
set_option maxHeartbeats 4000000 in
theorem lp_X14_copyAll_L62_512 {g : q_G} {d mc ms : Nat} {h0 : q_H} {Q : (Option Value ⊕ String) → q_H → Prop} {k n : Nat} {t : Nat} {r : Nat} {z : Nat} {ext : Nat → q_Sh} {rx : Nat → Nat → Option Nat} {L : Nat → Nat → Int64} (hd : 6 ≤ d) (hk : k ≤ mc) (hn : n ≤ ms)  {v2 : Int32} {v4 : Int32} : ∀ (fu : Nat) {I : Nat → Nat → Int32} {E : Nat → Nat → Option Nat} {v3 : Int32} {v5 : Int32} {r0 : Int32 × (Nat → Int32) × (Nat → Int32) × (Nat → Int32) × (Nat → Int32) × (Nat → Int32) × (Nat → Int32) × (Nat → Int32)} (hf : f_X14_copyAll_L62 (I 499) (I 516) (I 517) (I 519) (I 529) v4 fu (I 492) (I 510) (I 511) (I 512) (I 514) (I 515) (I 518) v3 v5 = some r0) (hK0 : q_J g m_X14_copyAll d mc ms h0 [] Q k n (q_kc (t, r, 1, z, 530, (q_ur ext 529 (1, 0, 136)), rx, L) I E 84 [some (.ref 512), some (.ref 529), some (.int v2), some (.int r0.1), some (.int v4), none] [] [(492, r0.2.1), (510, r0.2.2.1), (511, r0.2.2.2.1), (512, r0.2.2.2.2.1), (514, r0.2.2.2.2.2.1), (515, r0.2.2.2.2.2.2.1), (518, r0.2.2.2.2.2.2.2)] [])), q_J g m_X14_copyAll d mc ms h0 [] Q k n (62, [some (.ref 512), some (.ref 529), some (.int v2), some (.int v3), some (.int v4), some (.int v5)], [], q_hp (t, r, 1, z, 530, (q_ur ext 529 (1, 0, 136)), rx, L) I E) := by
  intro fu
  induction fu with
  | zero =>
    intro I E v3 v5 r0 hf hK0
    rw [f_X14_copyAll_L62] at hf
    cases hf
  | succ fu ih =>
    intro I E v3 v5 r0 hf hK0
    rw [f_X14_copyAll_L62] at hf
    change q_J g m_X14_copyAll d mc ms h0 [] Q k n (q_kc (t, r, 1, z, 530, (q_ur ext 529 (1, 0, 136)), rx, L) I E 62 [some (.ref 512), some (.ref 529), some (.int v2), some (.int v3), some (.int v4), some (.int v5)] [] [] [])
    refine q_blf 2 [] (a := q_kc (t, r, 1, z, 530, (q_ur ext 529 (1, 0, 136)), rx, L) I E 84 [some (.ref 512), some (.ref 529), some (.int v2), some (.int v3), some (.int v4), some (.int v5)] [] [] []) (b := q_kc (t, r, 1, z, 530, (q_ur ext 529 (1, 0, 136)), rx, L) I E 65 [some (.ref 512), some (.ref 529), some (.int v2), some (.int v3), some (.int v4), some (.int v5)] [] [] []) (P := (136 : Int32) ≤ v5) ok_X14_copyAll rfl q_cn (fun h11 => ?_) (fun h11 => ?_)
    · have hf := q_ip h11 hf
      refine q_less (ls' := [some (.ref 512), some (.ref 529), some (.int v2), some (.int v3), some (.int v4), none]) (q_sb2 (q_sb2 (q_sb2 (q_sb2 (q_sb2 (q_sb1 q_sb0)))))) ?_
      cases hf
      exact q_Jpad (q_pdw [492, 510, 511, 512, 514, 515, 518] rfl rfl) (q_pdw [] rfl rfl) hK0
    · have hf := q_in h11 hf
      obtain ⟨j12, hj12, hf⟩ := q_bd hf
      refine q_blf 4 [j12] (a := q_kc (t, r, 1, z, 530, (q_ur ext 529 (1, 0, 136)), rx, L) I E 82 [some (.ref 512), some (.ref 529), some (.int v2), some (.int v3), some (.int v4), some (.int v5)] [] [] []) (b := q_kc (t, r, 1, z, 530, (q_ur ext 529 (1, 0, 136)), rx, L) I E 70 [some (.ref 512), some (.ref 529), some (.int v2), some (.int v3), some (.int v4), some (.int v5)] [] [] []) (P := ¬ ((I 529) j12) = (2 : Int32)) ok_X14_copyAll rfl (q_cc hj12 q_cn) (fun h13 => ?_) (fun h13 => ?_)
      · have hf := q_ip h13 hf
        refine q_blk 2 [] (c' := q_kc (t, r, 1, z, 530, (q_ur ext 529 (1, 0, 136)), rx, L) I E 62 [some (.ref 512), some (.ref 529), some (.int v2), some (.int v3), some (.int v4), some (.int (v5 + 1))] [] [] []) ok_X14_copyAll rfl q_cn ?_
        exact ih (I := q_ws I []) (E := q_ws E []) hf (q_Jmrg (q_mgw rfl rfl) (q_mgw rfl rfl) hK0)
      · have hf := q_in h13 hf
        obtain ⟨j14, hj14, hf⟩ := q_bd hf
        refine q_blf 5 [j14] (a := q_kc (t, r, 1, z, 530, (q_ur ext 529 (1, 0, 136)), rx, L) I E 82 [some (.ref 512), some (.ref 529), some (.int v2), some (.int v3), some (.int v4), some (.int v5)] [] [] []) (b := q_kc (t, r, 1, z, 530, (q_ur ext 529 (1, 0, 136)), rx, L) I E 76 [some (.ref 512), some (.ref 529), some (.int v2), some (.int v3), some (.int v4), some (.int v5)] [] [] []) (P := ¬ ((I 515) j14) = v4) ok_X14_copyAll rfl (q_cc hj14 q_cn) (fun h15 => ?_) (fun h15 => ?_)
        · have hf := q_ip h15 hf
          refine q_blk 2 [] (c' := q_kc (t, r, 1, z, 530, (q_ur ext 529 (1, 0, 136)), rx, L) I E 62 [some (.ref 512), some (.ref 529), some (.int v2), some (.int v3), some (.int v4), some (.int (v5 + 1))] [] [] []) ok_X14_copyAll rfl q_cn ?_
          exact ih (I := q_ws I []) (E := q_ws E []) hf (q_Jmrg (q_mgw rfl rfl) (q_mgw rfl rfl) hK0)
        · have hf := q_in h15 hf
          refine q_blk 4 [] (c' := q_kc (t, r, 1, z, 530, (q_ur ext 529 (1, 0, 136)), rx, L) I E 80 [some (.ref 512), some (.ref 529), some (.int v2), some (.int v3), some (.int v4), some (.int v5)] [.ref 529, .int v3, .int v5, .ref 512] [] []) ok_X14_copyAll rfl q_cn ?_
          obtain ⟨r16, hr16, hf⟩ := q_bd hf
          refine q_kV (M2 := m_X14_takeRopes) (As := [.int v5, .int v3, .ref 529]) (b := 512) (v2 := some (.int r16.1)) ok_X14_copyAll ok_X14_takeRopes cv_X14_takeRopes (ct_X14_takeRopes_512_529_O (d := 5) (Nat.le_refl _) hr16) rfl rfl (Or.inl rfl) rfl rfl rfl rfl (Nat.le_trans (Nat.le_of_ble_eq_true rfl) hd) hk hn (Nat.le_of_ble_eq_true rfl) (fun x hx => absurd hx List.not_mem_nil) (q_nmL0 _) (q_nmS0 _) rfl (pos' := 81) (st' := [.int r16.1]) (lI' := [(492, r16.2.1), (510, r16.2.2.1), (511, r16.2.2.2.1), (512, r16.2.2.2.2.1), (514, r16.2.2.2.2.2.1), (515, r16.2.2.2.2.2.2.1), (518, r16.2.2.2.2.2.2.2)]) (lE' := []) rfl rfl (q_mgw rfl rfl) rfl ?_
          refine q_blk 3 [] (c' := q_kc (t, r, 1, z, 530, (q_ur ext 529 (1, 0, 136)), rx, L) I E 62 [some (.ref 512), some (.ref 529), some (.int v2), some (.int r16.1), some (.int v4), some (.int (v5 + 1))] [] [(492, r16.2.1), (510, r16.2.2.1), (511, r16.2.2.2.1), (512, r16.2.2.2.2.1), (514, r16.2.2.2.2.2.1), (515, r16.2.2.2.2.2.2.1), (518, r16.2.2.2.2.2.2.2)] []) ok_X14_copyAll rfl q_cn ?_
          exact ih (I := q_ws I [(492, r16.2.1), (510, r16.2.2.1), (511, r16.2.2.2.1), (512, r16.2.2.2.2.1), (514, r16.2.2.2.2.2.1), (515, r16.2.2.2.2.2.2.1), (518, r16.2.2.2.2.2.2.2)]) (E := q_ws E []) hf (q_Jmrg (q_mgw rfl rfl) (q_mgw rfl rfl) hK0)
set_option maxHeartbeats 4000000 in
theorem lp_X14_copyAll_L54_512 {g : q_G} {d mc ms : Nat} {h0 : q_H} {Q : (Option Value ⊕ String) → q_H → Prop} {k n : Nat} {t : Nat} {r : Nat} {z : Nat} {ext : Nat → q_Sh} {rx : Nat → Nat → Option Nat} {L : Nat → Nat → Int64} (hd : 6 ≤ d) (hk : k ≤ mc) (hn : n ≤ ms)  {v2 : Int32} : ∀ (fu : Nat) {I : Nat → Nat → Int32} {E : Nat → Nat → Option Nat} {v3 : Int32} {v4 : Int32} {r0 : Int32 × (Nat → Int32) × (Nat → Int32) × (Nat → Int32) × (Nat → Int32) × (Nat → Int32) × (Nat → Int32) × (Nat → Int32)} (hf : f_X14_copyAll_L54 (I 499) (I 516) (I 517) (I 519) (I 529) fu (I 492) (I 510) (I 511) (I 512) (I 514) (I 515) (I 518) v3 v4 = some r0) (hK0 : q_J g m_X14_copyAll d mc ms h0 [] Q k n (q_kc (t, r, 1, z, 530, (q_ur ext 529 (1, 0, 136)), rx, L) I E 86 [some (.ref 512), some (.ref 529), some (.int v2), some (.int r0.1), none, none] [] [(492, r0.2.1), (510, r0.2.2.1), (511, r0.2.2.2.1), (512, r0.2.2.2.2.1), (514, r0.2.2.2.2.2.1), (515, r0.2.2.2.2.2.2.1), (518, r0.2.2.2.2.2.2.2)] [])), q_J g m_X14_copyAll d mc ms h0 [] Q k n (54, [some (.ref 512), some (.ref 529), some (.int v2), some (.int v3), some (.int v4), none], [], q_hp (t, r, 1, z, 530, (q_ur ext 529 (1, 0, 136)), rx, L) I E) := by
  intro fu
  induction fu with
  | zero =>
    intro I E v3 v4 r0 hf hK0
    rw [f_X14_copyAll_L54] at hf
    cases hf
  | succ fu ih =>
    intro I E v3 v4 r0 hf hK0
    rw [f_X14_copyAll_L54] at hf
    change q_J g m_X14_copyAll d mc ms h0 [] Q k n (q_kc (t, r, 1, z, 530, (q_ur ext 529 (1, 0, 136)), rx, L) I E 54 [some (.ref 512), some (.ref 529), some (.int v2), some (.int v3), some (.int v4), none] [] [] [])
    refine q_blf 5 [] (a := q_kc (t, r, 1, z, 530, (q_ur ext 529 (1, 0, 136)), rx, L) I E 86 [some (.ref 512), some (.ref 529), some (.int v2), some (.int v3), some (.int v4), none] [] [] []) (b := q_kc (t, r, 1, z, 530, (q_ur ext 529 (1, 0, 136)), rx, L) I E 60 [some (.ref 512), some (.ref 529), some (.int v2), some (.int v3), some (.int v4), none] [] [] []) (P := ((I 499) 2) ≤ v4) ok_X14_copyAll rfl q_cn (fun h17 => ?_) (fun h17 => ?_)
    · have hf := q_ip h17 hf
      refine q_less (ls' := [some (.ref 512), some (.ref 529), some (.int v2), some (.int v3), none, none]) (q_sb2 (q_sb2 (q_sb2 (q_sb2 (q_sb1 (q_sb1 q_sb0)))))) ?_
      cases hf
      exact q_Jpad (q_pdw [492, 510, 511, 512, 514, 515, 518] rfl rfl) (q_pdw [] rfl rfl) hK0
    · have hf := q_in h17 hf
      refine q_blk 2 [] (c' := q_kc (t, r, 1, z, 530, (q_ur ext 529 (1, 0, 136)), rx, L) I E 62 [some (.ref 512), some (.ref 529), some (.int v2), some (.int v3), some (.int v4), some (.int (0 : Int32))] [] [] []) ok_X14_copyAll rfl q_cn ?_
      obtain ⟨r18, hr18, hf⟩ := q_bd hf
      refine lp_X14_copyAll_L62_512 (I := q_ws I []) (E := q_ws E []) hd hk hn 4096 hr18 ?_
      refine q_Jmrg (lI' := [(492, r18.2.1), (510, r18.2.2.1), (511, r18.2.2.2.1), (512, r18.2.2.2.2.1), (514, r18.2.2.2.2.2.1), (515, r18.2.2.2.2.2.2.1), (518, r18.2.2.2.2.2.2.2)]) (lE' := []) (q_mgw rfl rfl) (q_mgw rfl rfl) ?_
      refine q_blk 2 [] (c' := q_kc (t, r, 1, z, 530, (q_ur ext 529 (1, 0, 136)), rx, L) I E 54 [some (.ref 512), some (.ref 529), some (.int v2), some (.int r18.1), some (.int (v4 + 1)), none] [] [(492, r18.2.1), (510, r18.2.2.1), (511, r18.2.2.2.1), (512, r18.2.2.2.2.1), (514, r18.2.2.2.2.2.1), (515, r18.2.2.2.2.2.2.1), (518, r18.2.2.2.2.2.2.2)] []) ok_X14_copyAll rfl q_cn ?_
      exact ih (I := q_ws I [(492, r18.2.1), (510, r18.2.2.1), (511, r18.2.2.2.1), (512, r18.2.2.2.2.1), (514, r18.2.2.2.2.2.1), (515, r18.2.2.2.2.2.2.1), (518, r18.2.2.2.2.2.2.2)]) (E := q_ws E []) hf (q_Jmrg (q_mgw rfl rfl) (q_mgw rfl rfl) hK0)
set_option maxHeartbeats 4000000 in
theorem ct_X14_copyAll_512 {g : q_G} {t : Nat} {r : Nat} {ext : Nat → q_Sh} {rx : Nat → Nat → Option Nat} {L : Nat → Nat → Int64} {d : Nat} (hd : 6 ≤ d)  {I : Nat → Nat → Int32} {E : Nat → Nat → Option Nat} {r0 : Int32 × (Nat → Int32) × (Nat → Int32) × (Nat → Int32) × (Nat → Int32) × (Nat → Int32) × (Nat → Int32) × (Nat → Int32)} (hf : f_X14_copyAll (I 492) (I 499) (I 510) (I 511) (I 512) (I 513) (I 514) (I 515) (I 516) (I 517) (I 518) (I 519) = some r0) : q_Ct g m_X14_copyAll d 1 136 [] [.ref 512] (q_hp (t, r, 1, 499, 529, ext, rx, L) I E) (fun o h' => o = .inl (some (.int r0.1)) ∧ h' = q_hp (t, r, 1, 499, 529, ext, rx, L) (q_ws I [(492, r0.2.1), (510, r0.2.2.1), (511, r0.2.2.2.1), (512, r0.2.2.2.2.1), (514, r0.2.2.2.2.2.1), (515, r0.2.2.2.2.2.2.1), (518, r0.2.2.2.2.2.2.2)]) (q_ws E [])) := by
  rw [f_X14_copyAll] at hf
  refine q_Ct_of ok_X14_copyAll (Nat.le_of_ble_eq_true rfl) ?_ _ rfl rfl
  change q_J g m_X14_copyAll d 1 136 _ [] _ 0 0 (q_kc (t, r, 1, 499, 529, ext, rx, L) I E 0 [some (.ref 512), none, none, none, none, none] [] [] [])
  refine q_clo_J (fun hclo0 => ?_)
  refine q_blk 1 [] (c' := q_kc (t, r, 1, 499, 529, ext, rx, L) I E 1 [some (.ref 512), none, none, none, none, none] [.int (136 : Int32)] [] []) ok_X14_copyAll rfl q_cn ?_
  refine q_knewI (Lw := 136) (pos' := 2) (lI' := [(529, (fun _ => 0))]) (lE' := [(529, (fun _ => none))]) ok_X14_copyAll rfl rfl rfl (Nat.le_of_ble_eq_true rfl) (Nat.le_of_ble_eq_true rfl) rfl rfl rfl ?_
  refine q_blk 5 [] (c' := q_kc (t, r, 1, 499, 530, (q_ur ext 529 (1, 0, 136)), (q_ur rx 529 (fun _ => none)), (q_ur L 529 (fun _ => 0))) I E 7 [some (.ref 512), some (.ref 529), none, none, none, none] [.ref 529, .ref 514, .ref 512] [(529, (fun _ => 0))] [(529, (fun _ => none))]) ok_X14_copyAll rfl q_cn ?_
  obtain ⟨r19, hr19, hf⟩ := q_bd hf
  refine q_kV (M2 := m_X14_copy) (As := [.ref 514, .ref 529]) (b := 512) (v2 := none) ok_X14_copyAll ok_X14_copy cv_X14_copy (ct_X14_copy_512_514_529_O (d := 2) (Nat.le_refl _) hr19) rfl rfl (Or.inl rfl) rfl rfl rfl rfl (Nat.le_trans (Nat.le_of_ble_eq_true rfl) hd) (Nat.le_of_ble_eq_true rfl) (Nat.le_of_ble_eq_true rfl) (Nat.le_of_ble_eq_true rfl) (fun x hx => absurd hx List.not_mem_nil) (q_nmL0 _) (q_nmS0 _) rfl (pos' := 8) (st' := []) (lI' := [(529, r19)]) (lE' := [(529, (fun _ => none))]) rfl rfl (q_mgw rfl rfl) rfl ?_
  refine q_blk 1 [] (c' := q_kc (t, r, 1, 499, 530, (q_ur ext 529 (1, 0, 136)), (q_ur rx 529 (fun _ => none)), (q_ur L 529 (fun _ => 0))) I E 9 [some (.ref 512), some (.ref 529), none, none, none, none] [.ref 512] [(529, r19)] [(529, (fun _ => none))]) ok_X14_copyAll rfl q_cn ?_
  obtain ⟨r20, hr20, hf⟩ := q_bd hf
  refine q_kV (M2 := m_X14_forget) (As := []) (b := 512) (v2 := none) ok_X14_copyAll ok_X14_forget cv_X14_forget (ct_X14_forget_512 (d := 1) (Nat.le_refl _) hr20) rfl rfl (Or.inl rfl) rfl rfl rfl rfl (Nat.le_trans (Nat.le_of_ble_eq_true rfl) hd) (Nat.le_of_ble_eq_true rfl) (Nat.le_of_ble_eq_true rfl) (Nat.le_of_ble_eq_true rfl) (fun x hx => absurd hx List.not_mem_nil) (q_nmL0 _) (q_nmS0 _) rfl (pos' := 10) (st' := []) (lI' := [(492, r20.1), (511, r20.2), (529, r19)]) (lE' := [(529, (fun _ => none))]) rfl rfl (q_mgw rfl rfl) rfl ?_
  refine q_blk 2 [] (c' := q_kc (t, r, 1, 499, 530, (q_ur ext 529 (1, 0, 136)), (q_ur rx 529 (fun _ => none)), (q_ur L 529 (fun _ => 0))) I E 12 [some (.ref 512), some (.ref 529), none, none, none, none] [.int (1 : Int32), .ref 512] [(492, r20.1), (511, r20.2), (529, r19)] [(529, (fun _ => none))]) ok_X14_copyAll rfl q_cn ?_
  obtain ⟨r21, hr21, hf⟩ := q_bd hf
  refine q_kV (M2 := m_X14_bales) (As := [.int (1 : Int32)]) (b := 512) (v2 := some (.int r21)) ok_X14_copyAll ok_X14_bales cv_X14_bales (ct_X14_bales_512 (d := 1) (Nat.le_refl _) hr21) rfl rfl (Or.inl rfl) rfl rfl rfl rfl (Nat.le_trans (Nat.le_of_ble_eq_true rfl) hd) (Nat.le_of_ble_eq_true rfl) (Nat.le_of_ble_eq_true rfl) (Nat.le_of_ble_eq_true rfl) (fun x hx => absurd hx List.not_mem_nil) (q_nmL0 _) (q_nmS0 _) rfl (pos' := 13) (st' := [.int r21]) (lI' := [(492, r20.1), (511, r20.2), (529, r19)]) (lE' := [(529, (fun _ => none))]) rfl rfl rfl rfl ?_
  refine q_blk 3 [] (c' := q_kc (t, r, 1, 499, 530, (q_ur ext 529 (1, 0, 136)), (q_ur rx 529 (fun _ => none)), (q_ur L 529 (fun _ => 0))) I E 16 [some (.ref 512), some (.ref 529), some (.int r21), some (.int (0 : Int32)), none, none] [] [(492, r20.1), (511, r20.2), (529, r19)] [(529, (fun _ => none))]) ok_X14_copyAll rfl q_cn ?_
  obtain ⟨r22, hr22, hf⟩ := q_bd hf
  refine lp_X14_copyAll_L16_512 (I := q_ws I [(492, r20.1), (511, r20.2), (529, r19)]) (E := q_ws E [(529, (fun _ => none))]) hd (Nat.le_of_ble_eq_true rfl) (Nat.le_of_ble_eq_true rfl) 4096 hr22 ?_
  refine q_Jmrg (lI' := [(492, r20.1), (511, r20.2), (514, r22), (529, r19)]) (lE' := [(529, (fun _ => none))]) (q_mgw rfl rfl) (q_mgw rfl rfl) ?_
  refine q_blk 4 [] (c' := q_kc (t, r, 1, 499, 530, (q_ur ext 529 (1, 0, 136)), (q_ur rx 529 (fun _ => none)), (q_ur L 529 (fun _ => 0))) I E 35 [some (.ref 512), some (.ref 529), some (.int r21), some (.int (0 : Int32)), some (.int (0 : Int32)), none] [] [(492, r20.1), (511, r20.2), (514, r22), (529, r19)] [(529, (fun _ => none))]) ok_X14_copyAll rfl q_cn ?_
  obtain ⟨r23, hr23, hf⟩ := q_bd hf
  refine lp_X14_copyAll_L35_512 (I := q_ws I [(492, r20.1), (511, r20.2), (514, r22), (529, r19)]) (E := q_ws E [(529, (fun _ => none))]) hd (Nat.le_of_ble_eq_true rfl) (Nat.le_of_ble_eq_true rfl) 4096 hr23 ?_
  refine q_Jmrg (lI' := [(492, r23.2.1), (510, r23.2.2.1), (511, r23.2.2.2.1), (512, r23.2.2.2.2.1), (514, r23.2.2.2.2.2.1), (515, r23.2.2.2.2.2.2.1), (518, r23.2.2.2.2.2.2.2), (529, r19)]) (lE' := [(529, (fun _ => none))]) (q_mgw rfl rfl) (q_mgw rfl rfl) ?_
  refine q_blk 2 [] (c' := q_kc (t, r, 1, 499, 530, (q_ur ext 529 (1, 0, 136)), (q_ur rx 529 (fun _ => none)), (q_ur L 529 (fun _ => 0))) I E 54 [some (.ref 512), some (.ref 529), some (.int r21), some (.int r23.1), some (.int (0 : Int32)), none] [] [(492, r23.2.1), (510, r23.2.2.1), (511, r23.2.2.2.1), (512, r23.2.2.2.2.1), (514, r23.2.2.2.2.2.1), (515, r23.2.2.2.2.2.2.1), (518, r23.2.2.2.2.2.2.2), (529, r19)] [(529, (fun _ => none))]) ok_X14_copyAll rfl q_cn ?_
  obtain ⟨r24, hr24, hf⟩ := q_bd hf
  refine lp_X14_copyAll_L54_512 (I := q_ws I [(492, r23.2.1), (510, r23.2.2.1), (511, r23.2.2.2.1), (512, r23.2.2.2.2.1), (514, r23.2.2.2.2.2.1), (515, r23.2.2.2.2.2.2.1), (518, r23.2.2.2.2.2.2.2), (529, r19)]) (E := q_ws E [(529, (fun _ => none))]) hd (Nat.le_of_ble_eq_true rfl) (Nat.le_of_ble_eq_true rfl) 4096 hr24 ?_
  refine q_Jmrg (lI' := [(492, r24.2.1), (510, r24.2.2.1), (511, r24.2.2.2.1), (512, r24.2.2.2.2.1), (514, r24.2.2.2.2.2.1), (515, r24.2.2.2.2.2.2.1), (518, r24.2.2.2.2.2.2.2), (529, r19)]) (lE' := [(529, (fun _ => none))]) (q_mgw rfl rfl) (q_mgw rfl rfl) ?_
  refine q_blk 2 [] (c' := q_kc (t, r, 1, 499, 530, (q_ur ext 529 (1, 0, 136)), (q_ur rx 529 (fun _ => none)), (q_ur L 529 (fun _ => 0))) I E 88 [some (.ref 512), some (.ref 529), some (.int r21), some (.int r24.1), some (.int (0 : Int32)), none] [] [(492, r24.2.1), (510, r24.2.2.1), (511, r24.2.2.2.1), (512, r24.2.2.2.2.1), (514, r24.2.2.2.2.2.1), (515, r24.2.2.2.2.2.2.1), (518, r24.2.2.2.2.2.2.2), (529, r19)] [(529, (fun _ => none))]) ok_X14_copyAll rfl q_cn ?_
  obtain ⟨r25, hr25, hf⟩ := q_bd hf
  refine lp_X14_copyAll_L88_512 (I := q_ws I [(492, r24.2.1), (510, r24.2.2.1), (511, r24.2.2.2.1), (512, r24.2.2.2.2.1), (514, r24.2.2.2.2.2.1), (515, r24.2.2.2.2.2.2.1), (518, r24.2.2.2.2.2.2.2), (529, r19)]) (E := q_ws E [(529, (fun _ => none))]) hd (Nat.le_of_ble_eq_true rfl) (Nat.le_of_ble_eq_true rfl) 4096 hr25 ?_
  refine q_Jmrg (lI' := [(492, r25.1), (510, r25.2.1), (511, r25.2.2.1), (512, r25.2.2.2.1), (514, r25.2.2.2.2.1), (515, r25.2.2.2.2.2.1), (518, r25.2.2.2.2.2.2), (529, r19)]) (lE' := [(529, (fun _ => none))]) (q_mgw rfl rfl) (q_mgw rfl rfl) ?_
  refine q_blk 27 [] (c' := q_kc (t, r, 1, 499, 530, (q_ur ext 529 (1, 0, 136)), (q_ur rx 529 (fun _ => none)), (q_ur L 529 (fun _ => 0))) I E 132 [some (.ref 512), none, some (.int r21), none, none, none] [.int (r21 - (r25.1 16))] [(492, r25.1), (510, r25.2.1), (511, r25.2.2.1), (512, (q_up (q_up (q_up r25.2.2.2.1 2 ((1 : Int32) - (r25.2.2.2.1 2))) 3 (((q_up r25.2.2.2.1 2 ((1 : Int32) - (r25.2.2.2.1 2))) 3) + (1 : Int32))) 5 (((q_up (q_up r25.2.2.2.1 2 ((1 : Int32) - (r25.2.2.2.1 2))) 3 (((q_up r25.2.2.2.1 2 ((1 : Int32) - (r25.2.2.2.1 2))) 3) + (1 : Int32))) 5) + (r21 - (r25.1 16))))), (514, r25.2.2.2.2.1), (515, r25.2.2.2.2.2.1), (518, r25.2.2.2.2.2.2), (529, r19)] [(529, (fun _ => none))]) ok_X14_copyAll rfl q_cn ?_
  cases hf
  refine q_less (ls' := [none, none, none, none, none, none]) (q_sb1 (q_sb1 (q_sb1 (q_sb1 (q_sb1 (q_sb1 q_sb0)))))) ?_
  refine q_kdrop (lI0 := [(492, r25.1), (510, r25.2.1), (511, r25.2.2.1), (512, (q_up (q_up (q_up r25.2.2.2.1 2 ((1 : Int32) - (r25.2.2.2.1 2))) 3 (((q_up r25.2.2.2.1 2 ((1 : Int32) - (r25.2.2.2.1 2))) 3) + (1 : Int32))) 5 (((q_up (q_up r25.2.2.2.1 2 ((1 : Int32) - (r25.2.2.2.1 2))) 3 (((q_up r25.2.2.2.1 2 ((1 : Int32) - (r25.2.2.2.1 2))) 3) + (1 : Int32))) 5) + (r21 - (r25.1 16))))), (514, r25.2.2.2.2.1), (515, r25.2.2.2.2.2.1), (518, r25.2.2.2.2.2.2)]) (lE0 := []) hclo0 rfl rfl (q_nrS_of rfl) (q_nrL_of rfl) (Nat.le_refl _) rfl ?_
  exact q_kri ok_X14_copyAll rfl rfl rfl (Nat.le_of_ble_eq_true rfl) (Nat.le_of_ble_eq_true rfl) ⟨rfl, q_hpe (q_pdw [492, 510, 511, 512, 514, 515, 518] rfl rfl) (q_pdw [] rfl rfl)⟩
