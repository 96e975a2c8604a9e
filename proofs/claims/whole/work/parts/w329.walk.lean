set_option maxHeartbeats 4000000 in
theorem lp_X14_carryOut_L4_520 {g : q_G} {d mc ms : Nat} {h0 : q_H} {Q : (Option Value ⊕ String) → q_H → Prop} {k n : Nat} {t : Nat} {r : Nat} {z : Nat} {N : Nat} {ext : Nat → q_Sh} {rx : Nat → Nat → Option Nat} {L : Nat → Nat → Int64} (hd : 4 ≤ d) (hk : k ≤ mc) (hn : n ≤ ms)  {v2 : Int32} : ∀ (fu : Nat) {I : Nat → Nat → Int32} {E : Nat → Nat → Option Nat} {v3 : Int32} {v4 : Int32} {r0 : (Nat → Int32)} (hf : f_X14_carryOut_L4 (I 499) (I 507) (I 520) (I 521) (I 522) (I 524) (I 526) v2 fu (I 509) v3 v4 = some r0) (hK0 : q_J g m_X14_carryOut d mc ms h0 [] Q k n (q_kc (t, r, 1, z, N, ext, rx, L) I E 85 [some (.ref 520), none, none, none, none, none, none] [] [(509, r0)] [])), q_J g m_X14_carryOut d mc ms h0 [] Q k n (4, [some (.ref 520), none, some (.int v2), some (.int v3), some (.int v4), none, none], [], q_hp (t, r, 1, z, N, ext, rx, L) I E) := by
  intro fu
  induction fu with
  | zero =>
    intro I E v3 v4 r0 hf hK0
    rw [f_X14_carryOut_L4] at hf
    cases hf
  | succ fu ih =>
    intro I E v3 v4 r0 hf hK0
    rw [f_X14_carryOut_L4] at hf
    change q_J g m_X14_carryOut d mc ms h0 [] Q k n (q_kc (t, r, 1, z, N, ext, rx, L) I E 4 [some (.ref 520), none, some (.int v2), some (.int v3), some (.int v4), none, none] [] [] [])
    refine q_blf 2 [] (a := q_kc (t, r, 1, z, N, ext, rx, L) I E 85 [some (.ref 520), none, some (.int v2), some (.int v3), some (.int v4), none, none] [] [] []) (b := q_kc (t, r, 1, z, N, ext, rx, L) I E 7 [some (.ref 520), none, some (.int v2), some (.int v3), some (.int v4), none, none] [] [] []) (P := v2 ≤ v4) ok_X14_carryOut rfl q_cn (fun h1 => ?_) (fun h1 => ?_)
    · have hf := q_ip h1 hf
      refine q_less (ls' := [some (.ref 520), none, none, none, none, none, none]) (q_sb2 (q_sb1 (q_sb1 (q_sb1 (q_sb1 (q_sb1 (q_sb1 q_sb0))))))) ?_
      cases hf
      exact q_Jpad (q_pdw [509] rfl rfl) (q_pdw [] rfl rfl) hK0
    · have hf := q_in h1 hf
      obtain ⟨j2, hj2, hf⟩ := q_bd hf
      refine q_blk 9 [j2] (c' := q_kc (t, r, 1, z, N, ext, rx, L) I E 16 [some (.ref 520), none, some (.int v2), some (.int v3), some (.int (v4 + 1)), some (.int ((I 507) j2)), none] [.int ((I 507) j2)] [] []) ok_X14_carryOut rfl (q_cc hj2 q_cn) ?_
      obtain ⟨r3, hr3, hf⟩ := q_bd hf
      refine q_kS (M2 := m_X15_taken) (As := [.int ((I 507) j2)]) (v2 := some (.int r3)) ok_X14_carryOut ok_X15_taken cs_X15_taken (ct_X15_taken (d := 1) (Nat.le_refl _) hr3) rfl rfl (Or.inr ⟨_, rfl⟩) (Nat.le_trans (Nat.le_of_ble_eq_true rfl) hd) hk hn (Nat.le_of_ble_eq_true rfl) (fun x hx => absurd hx List.not_mem_nil) (q_nmL0 _) (q_nmS0 _) rfl (pos' := 17) (st' := [.int r3]) (lI' := []) (lE' := []) rfl rfl rfl rfl ?_
      refine q_blf 2 [] (a := q_kc (t, r, 1, z, N, ext, rx, L) I E 35 [some (.ref 520), none, some (.int v2), some (.int v3), some (.int (v4 + 1)), some (.int ((I 507) j2)), some (.int r3)] [] [] []) (b := q_kc (t, r, 1, z, N, ext, rx, L) I E 20 [some (.ref 520), none, some (.int v2), some (.int v3), some (.int (v4 + 1)), some (.int ((I 507) j2)), some (.int r3)] [] [] []) (P := r3 < 0) ok_X14_carryOut rfl q_cn (fun h4 => ?_) (fun h4 => ?_)
      · have hf := q_ip h4 hf
        refine q_blf 2 [] (a := q_kc (t, r, 1, z, N, ext, rx, L) I E 41 [some (.ref 520), none, some (.int v2), some (.int v3), some (.int (v4 + 1)), some (.int ((I 507) j2)), some (.int r3)] [] [] []) (b := q_kc (t, r, 1, z, N, ext, rx, L) I E 38 [some (.ref 520), none, some (.int v2), some (.int v3), some (.int (v4 + 1)), some (.int ((I 507) j2)), some (.int r3)] [] [] []) (P := ((I 507) j2) = (33 : Int32)) ok_X14_carryOut rfl q_cn (fun h5 => ?_) (fun h5 => ?_)
        · have hf := q_ip h5 hf
          refine q_blf 6 [] (a := q_kc (t, r, 1, z, N, ext, rx, L) I E 55 [some (.ref 520), none, some (.int v2), some (.int v3), some (.int (v4 + 1)), some (.int ((I 507) j2)), some (.int r3)] [.int v3, .ref 509] [] []) (b := q_kc (t, r, 1, z, N, ext, rx, L) I E 48 [some (.ref 520), none, some (.int v2), some (.int v3), some (.int (v4 + 1)), some (.int ((I 507) j2)), some (.int r3)] [.int v3, .ref 509] [] []) (P := ¬ ((I 507) j2) = (33 : Int32)) ok_X14_carryOut rfl q_cn (fun h6 => ?_) (fun h6 => ?_)
          · have hf := q_ip h6 hf
            obtain ⟨j7, hj7, hf⟩ := q_bd hf
            obtain ⟨j8, hj8, hf⟩ := q_bd hf
            refine q_blk 10 [j7, j8] (c' := q_kc (t, r, 1, z, N, ext, rx, L) I E 4 [some (.ref 520), none, some (.int v2), some (.int v3), some (.int (v4 + 1)), some (.int ((I 507) j2)), some (.int r3)] [] [(509, (q_up (I 509) j8 ((1 : Int32) - ((I 509) j7))))] []) ok_X14_carryOut rfl (q_cc hj8 (q_cc hj7 q_cn)) ?_
            refine q_less (ls' := [some (.ref 520), none, some (.int v2), some (.int v3), some (.int (v4 + 1)), none, none]) (q_sb2 (q_sb1 (q_sb2 (q_sb2 (q_sb2 (q_sb1 (q_sb1 q_sb0))))))) ?_
            exact ih (I := q_ws I [(509, (q_up (I 509) j8 ((1 : Int32) - ((I 509) j7))))]) (E := q_ws E []) hf (q_Jmrg (q_mgw rfl rfl) (q_mgw rfl rfl) hK0)
          · have hf := q_in h6 hf
            obtain ⟨j9, hj9, hf⟩ := q_bd hf
            obtain ⟨j10, hj10, hf⟩ := q_bd hf
            refine q_blk 10 [j9, j10] (c' := q_kc (t, r, 1, z, N, ext, rx, L) I E 4 [some (.ref 520), none, some (.int v2), some (.int v3), some (.int (v4 + 1)), some (.int ((I 507) j2)), some (.int r3)] [] [(509, (q_up (I 509) j10 (-((I 509) j9))))] []) ok_X14_carryOut rfl (q_cc hj10 (q_cc hj9 q_cn)) ?_
            refine q_less (ls' := [some (.ref 520), none, some (.int v2), some (.int v3), some (.int (v4 + 1)), none, none]) (q_sb2 (q_sb1 (q_sb2 (q_sb2 (q_sb2 (q_sb1 (q_sb1 q_sb0))))))) ?_
            exact ih (I := q_ws I [(509, (q_up (I 509) j10 (-((I 509) j9))))]) (E := q_ws E []) hf (q_Jmrg (q_mgw rfl rfl) (q_mgw rfl rfl) hK0)
        · have hf := q_in h5 hf
          refine q_blf 2 [] (a := q_kc (t, r, 1, z, N, ext, rx, L) I E 64 [some (.ref 520), none, some (.int v2), some (.int v3), some (.int (v4 + 1)), some (.int ((I 507) j2)), some (.int r3)] [] [] []) (b := q_kc (t, r, 1, z, N, ext, rx, L) I E 41 [some (.ref 520), none, some (.int v2), some (.int v3), some (.int (v4 + 1)), some (.int ((I 507) j2)), some (.int r3)] [] [] []) (P := ¬ ((I 507) j2) = (24 : Int32)) ok_X14_carryOut rfl q_cn (fun h11 => ?_) (fun h11 => ?_)
          · have hf := q_ip h11 hf
            obtain ⟨j12, hj12, hf⟩ := q_bd hf
            obtain ⟨j13, hj13, hf⟩ := q_bd hf
            refine q_blk 18 [j12, j13] (c' := q_kc (t, r, 1, z, N, ext, rx, L) I E 82 [some (.ref 520), none, some (.int v2), some (.int (v3 + (-1))), some (.int (v4 + 1)), some (.int ((I 507) j2)), some (.int r3)] [.int ((I 509) j13), .int ((I 509) j12), .int ((I 507) j2), .int (v3 + (-1)), .ref 509] [] []) ok_X14_carryOut rfl (q_cc hj13 (q_cc hj12 q_cn)) ?_
            obtain ⟨r14, hr14, hf⟩ := q_bd hf
            refine q_kS (M2 := m_X15_both) (As := [.int ((I 507) j2), .int ((I 509) j12), .int ((I 509) j13)]) (v2 := some (.int r14)) ok_X14_carryOut ok_X15_both cs_X15_both (ct_X15_both (d := 2) (Nat.le_refl _) hr14) rfl rfl (Or.inr ⟨_, rfl⟩) (Nat.le_trans (Nat.le_of_ble_eq_true rfl) hd) hk hn (Nat.le_of_ble_eq_true rfl) (fun x hx => absurd hx List.not_mem_nil) (q_nmL0 _) (q_nmS0 _) rfl (pos' := 83) (st' := [.int r14, .int (v3 + (-1)), .ref 509]) (lI' := []) (lE' := []) rfl rfl rfl rfl ?_
            obtain ⟨j15, hj15, hf⟩ := q_bd hf
            refine q_blk 2 [j15] (c' := q_kc (t, r, 1, z, N, ext, rx, L) I E 4 [some (.ref 520), none, some (.int v2), some (.int (v3 + (-1))), some (.int (v4 + 1)), some (.int ((I 507) j2)), some (.int r3)] [] [(509, (q_up (I 509) j15 r14))] []) ok_X14_carryOut rfl (q_cc hj15 q_cn) ?_
            refine q_less (ls' := [some (.ref 520), none, some (.int v2), some (.int (v3 + (-1))), some (.int (v4 + 1)), none, none]) (q_sb2 (q_sb1 (q_sb2 (q_sb2 (q_sb2 (q_sb1 (q_sb1 q_sb0))))))) ?_
            exact ih (I := q_ws I [(509, (q_up (I 509) j15 r14))]) (E := q_ws E []) hf (q_Jmrg (q_mgw rfl rfl) (q_mgw rfl rfl) hK0)
          · have hf := q_in h11 hf
            refine q_blf 6 [] (a := q_kc (t, r, 1, z, N, ext, rx, L) I E 55 [some (.ref 520), none, some (.int v2), some (.int v3), some (.int (v4 + 1)), some (.int ((I 507) j2)), some (.int r3)] [.int v3, .ref 509] [] []) (b := q_kc (t, r, 1, z, N, ext, rx, L) I E 48 [some (.ref 520), none, some (.int v2), some (.int v3), some (.int (v4 + 1)), some (.int ((I 507) j2)), some (.int r3)] [.int v3, .ref 509] [] []) (P := ¬ ((I 507) j2) = (33 : Int32)) ok_X14_carryOut rfl q_cn (fun h16 => ?_) (fun h16 => ?_)
            · have hf := q_ip h16 hf
              obtain ⟨j17, hj17, hf⟩ := q_bd hf
              obtain ⟨j18, hj18, hf⟩ := q_bd hf
              refine q_blk 10 [j17, j18] (c' := q_kc (t, r, 1, z, N, ext, rx, L) I E 4 [some (.ref 520), none, some (.int v2), some (.int v3), some (.int (v4 + 1)), some (.int ((I 507) j2)), some (.int r3)] [] [(509, (q_up (I 509) j18 ((1 : Int32) - ((I 509) j17))))] []) ok_X14_carryOut rfl (q_cc hj18 (q_cc hj17 q_cn)) ?_
              refine q_less (ls' := [some (.ref 520), none, some (.int v2), some (.int v3), some (.int (v4 + 1)), none, none]) (q_sb2 (q_sb1 (q_sb2 (q_sb2 (q_sb2 (q_sb1 (q_sb1 q_sb0))))))) ?_
              exact ih (I := q_ws I [(509, (q_up (I 509) j18 ((1 : Int32) - ((I 509) j17))))]) (E := q_ws E []) hf (q_Jmrg (q_mgw rfl rfl) (q_mgw rfl rfl) hK0)
            · have hf := q_in h16 hf
              obtain ⟨j19, hj19, hf⟩ := q_bd hf
              obtain ⟨j20, hj20, hf⟩ := q_bd hf
              refine q_blk 10 [j19, j20] (c' := q_kc (t, r, 1, z, N, ext, rx, L) I E 4 [some (.ref 520), none, some (.int v2), some (.int v3), some (.int (v4 + 1)), some (.int ((I 507) j2)), some (.int r3)] [] [(509, (q_up (I 509) j20 (-((I 509) j19))))] []) ok_X14_carryOut rfl (q_cc hj20 (q_cc hj19 q_cn)) ?_
              refine q_less (ls' := [some (.ref 520), none, some (.int v2), some (.int v3), some (.int (v4 + 1)), none, none]) (q_sb2 (q_sb1 (q_sb2 (q_sb2 (q_sb2 (q_sb1 (q_sb1 q_sb0))))))) ?_
              exact ih (I := q_ws I [(509, (q_up (I 509) j20 (-((I 509) j19))))]) (E := q_ws E []) hf (q_Jmrg (q_mgw rfl rfl) (q_mgw rfl rfl) hK0)
      · have hf := q_in h4 hf
        refine q_blk 8 [] (c' := q_kc (t, r, 1, z, N, ext, rx, L) I E 28 [some (.ref 520), none, some (.int v2), some (.int (v3 + 1)), some (.int (v4 + 1)), some (.int ((I 507) j2)), some (.int r3)] [.int (v4 + 1), .int ((I 507) j2), .ref 520, .int (v3 + 1), .ref 509] [] []) ok_X14_carryOut rfl q_cn ?_
        obtain ⟨r21, hr21, hf⟩ := q_bd hf
        refine q_kV (M2 := m_X14_pushed) (As := [.int ((I 507) j2), .int (v4 + 1)]) (b := 520) (v2 := some (.int r21)) ok_X14_carryOut ok_X14_pushed cv_X14_pushed (ct_X14_pushed_520 (d := 3) (Nat.le_refl _) hr21) rfl rfl (Or.inl rfl) rfl rfl rfl rfl (Nat.le_trans (Nat.le_of_ble_eq_true rfl) hd) hk hn (Nat.le_of_ble_eq_true rfl) (fun x hx => absurd hx List.not_mem_nil) (q_nmL0 _) (q_nmS0 _) rfl (pos' := 29) (st' := [.int r21, .int (v3 + 1), .ref 509]) (lI' := []) (lE' := []) rfl rfl rfl rfl ?_
        obtain ⟨j22, hj22, hf⟩ := q_bd hf
        refine q_blk 7 [j22] (c' := q_kc (t, r, 1, z, N, ext, rx, L) I E 4 [some (.ref 520), none, some (.int v2), some (.int (v3 + 1)), some (.int ((v4 + 1) + r3)), some (.int ((I 507) j2)), some (.int r3)] [] [(509, (q_up (I 509) j22 r21))] []) ok_X14_carryOut rfl (q_cc hj22 q_cn) ?_
        refine q_less (ls' := [some (.ref 520), none, some (.int v2), some (.int (v3 + 1)), some (.int ((v4 + 1) + r3)), none, none]) (q_sb2 (q_sb1 (q_sb2 (q_sb2 (q_sb2 (q_sb1 (q_sb1 q_sb0))))))) ?_
        exact ih (I := q_ws I [(509, (q_up (I 509) j22 r21))]) (E := q_ws E []) hf (q_Jmrg (q_mgw rfl rfl) (q_mgw rfl rfl) hK0)
set_option maxHeartbeats 4000000 in
theorem ct_X14_carryOut_520 {g : q_G} {t : Nat} {r : Nat} {z : Nat} {N : Nat} {ext : Nat → q_Sh} {rx : Nat → Nat → Option Nat} {L : Nat → Nat → Int64} {d : Nat} (hd : 4 ≤ d)  {I : Nat → Nat → Int32} {E : Nat → Nat → Option Nat} {x1 : Int32} {x2 : Int32} {r0 : Int32 × (Nat → Int32)} (hf : f_X14_carryOut (I 499) (I 507) (I 509) (I 520) (I 521) (I 522) (I 524) (I 526) x1 x2 = some r0) : q_Ct g m_X14_carryOut d 0 0 [] [.ref 520, .int x1, .int x2] (q_hp (t, r, 1, z, N, ext, rx, L) I E) (fun o h' => o = .inl (some (.int r0.1)) ∧ h' = q_hp (t, r, 1, z, N, ext, rx, L) (q_ws I [(509, r0.2)]) (q_ws E [])) := by
  rw [f_X14_carryOut] at hf
  refine q_Ct_of ok_X14_carryOut (Nat.le_of_ble_eq_true rfl) ?_ _ rfl rfl
  change q_J g m_X14_carryOut d 0 0 _ [] _ 0 0 (q_kc (t, r, 1, z, N, ext, rx, L) I E 0 [some (.ref 520), some (.int x1), some (.int x2), none, none, none, none] [] [] [])
  refine q_blk 4 [] (c' := q_kc (t, r, 1, z, N, ext, rx, L) I E 4 [some (.ref 520), some (.int x1), some (.int x2), some (.int (-1 : Int32)), some (.int x1), none, none] [] [] []) ok_X14_carryOut rfl q_cn ?_
  refine q_less (ls' := [some (.ref 520), none, some (.int x2), some (.int (-1 : Int32)), some (.int x1), none, none]) (q_sb2 (q_sb1 (q_sb2 (q_sb2 (q_sb2 (q_sb1 (q_sb1 q_sb0))))))) ?_
  obtain ⟨r23, hr23, hf⟩ := q_bd hf
  refine lp_X14_carryOut_L4_520 (I := q_ws I []) (E := q_ws E []) hd (Nat.le_of_ble_eq_true rfl) (Nat.le_of_ble_eq_true rfl) 4096 hr23 ?_
  refine q_Jmrg (lI' := [(509, r23)]) (lE' := []) (q_mgw rfl rfl) (q_mgw rfl rfl) ?_
  obtain ⟨j24, hj24, hf⟩ := q_bd hf
  refine q_blk 5 [j24] (c' := q_kc (t, r, 1, z, N, ext, rx, L) I E 90 [some (.ref 520), none, none, none, none, none, none] [.int (r23 j24)] [(509, r23)] []) ok_X14_carryOut rfl (q_cc hj24 q_cn) ?_
  cases hf
  exact q_kri ok_X14_carryOut rfl rfl rfl (Nat.le_of_ble_eq_true rfl) (Nat.le_of_ble_eq_true rfl) ⟨rfl, q_hpe (q_pdw [509] rfl rfl) (q_pdw [] rfl rfl)⟩
set_option maxHeartbeats 4000000 in
theorem ct_X14_copy_520_522_529_O {g : q_G} {t : Nat} {r : Nat} {m : Nat} {z : Nat} {ext : Nat → q_Sh} {rx : Nat → Nat → Option Nat} {L : Nat → Nat → Int64} {d : Nat} (hd : 2 ≤ d)  {I : Nat → Nat → Int32} {E : Nat → Nat → Option Nat} {r0 : (Nat → Int32)} (hf : f_X14_copy (I 522) (I 529) = some r0) : q_Ct g m_X14_copy d 0 0 [] [.ref 520, .ref 522, .ref 529] (q_hp (t, r, m, z, 530, (q_ur ext 529 (1, 0, 136)), rx, L) I E) (fun o h' => o = .inl none ∧ h' = q_hp (t, r, m, z, 530, (q_ur ext 529 (1, 0, 136)), rx, L) (q_ws I [(529, r0)]) (q_ws E [])) := by
  rw [f_X14_copy] at hf
  refine q_Ct_of ok_X14_copy (Nat.le_of_ble_eq_true rfl) ?_ _ rfl rfl
  change q_J g m_X14_copy d 0 0 _ [] _ 0 0 (q_kc (t, r, m, z, 530, (q_ur ext 529 (1, 0, 136)), rx, L) I E 0 [some (.ref 520), some (.ref 522), some (.ref 529)] [] [] [])
  refine q_blk 6 [] (c' := q_kc (t, r, m, z, 530, (q_ur ext 529 (1, 0, 136)), rx, L) I E 6 [some (.ref 520), some (.ref 522), some (.ref 529)] [.int (nI 136), .int (0 : Int32), .ref 529, .int (0 : Int32), .ref 522] [] []) ok_X14_copy rfl q_cn ?_
  refine q_kcp (c := 136) (pos' := 7) (lI' := [(529, (q_cp (I 522) (I 529) 136))]) ok_X14_copy rfl rfl (Nat.le_trans (Nat.le_of_ble_eq_true rfl) hd) (Nat.le_of_ble_eq_true rfl) rfl rfl rfl rfl rfl rfl rfl rfl rfl rfl ?_
  cases hf
  exact q_krv ok_X14_copy rfl rfl (Nat.le_of_ble_eq_true rfl) (Nat.le_of_ble_eq_true rfl) ⟨rfl, q_hpe (q_pdw [529] rfl rfl) (q_pdw [] rfl rfl)⟩
set_option maxHeartbeats 4000000 in
theorem lp_X14_forget_L6_520 {g : q_G} {d mc ms : Nat} {h0 : q_H} {Q : (Option Value ⊕ String) → q_H → Prop} {k n : Nat} {t : Nat} {r : Nat} {z : Nat} {N : Nat} {ext : Nat → q_Sh} {rx : Nat → Nat → Option Nat} {L : Nat → Nat → Int64} (hd : 1 ≤ d) (hk : k ≤ mc) (hn : n ≤ ms)  : ∀ (fu : Nat) {I : Nat → Nat → Int32} {E : Nat → Nat → Option Nat} {v1 : Int32} {r0 : (Nat → Int32)} (hf : f_X14_forget_L6 fu (I 511) v1 = some r0) (hK0 : q_J g m_X14_forget d mc ms h0 [] Q k n (q_kc (t, r, 1, z, N, ext, rx, L) I E 17 [none, none] [] [(511, r0)] [])), q_J g m_X14_forget d mc ms h0 [] Q k n (6, [some (.ref 520), some (.int v1)], [], q_hp (t, r, 1, z, N, ext, rx, L) I E) := by
  intro fu
  induction fu with
  | zero =>
    intro I E v1 r0 hf hK0
    rw [f_X14_forget_L6] at hf
    cases hf
  | succ fu ih =>
    intro I E v1 r0 hf hK0
    rw [f_X14_forget_L6] at hf
    change q_J g m_X14_forget d mc ms h0 [] Q k n (q_kc (t, r, 1, z, N, ext, rx, L) I E 6 [some (.ref 520), some (.int v1)] [] [] [])
    refine q_blf 2 [] (a := q_kc (t, r, 1, z, N, ext, rx, L) I E 17 [some (.ref 520), some (.int v1)] [] [] []) (b := q_kc (t, r, 1, z, N, ext, rx, L) I E 9 [some (.ref 520), some (.int v1)] [] [] []) (P := (136 : Int32) ≤ v1) ok_X14_forget rfl q_cn (fun h1 => ?_) (fun h1 => ?_)
    · have hf := q_ip h1 hf
      refine q_less (ls' := [none, none]) (q_sb1 (q_sb1 q_sb0)) ?_
      cases hf
      exact q_Jpad (q_pdw [511] rfl rfl) (q_pdw [] rfl rfl) hK0
    · have hf := q_in h1 hf
      obtain ⟨j2, hj2, hf⟩ := q_bd hf
      refine q_blk 8 [j2] (c' := q_kc (t, r, 1, z, N, ext, rx, L) I E 6 [some (.ref 520), some (.int (v1 + 1))] [] [(511, (q_up (I 511) j2 (0 : Int32)))] []) ok_X14_forget rfl (q_cc hj2 q_cn) ?_
      exact ih (I := q_ws I [(511, (q_up (I 511) j2 (0 : Int32)))]) (E := q_ws E []) hf (q_Jmrg (q_mgw rfl rfl) (q_mgw rfl rfl) hK0)
set_option maxHeartbeats 4000000 in
theorem ct_X14_forget_520 {g : q_G} {t : Nat} {r : Nat} {z : Nat} {N : Nat} {ext : Nat → q_Sh} {rx : Nat → Nat → Option Nat} {L : Nat → Nat → Int64} {d : Nat} (hd : 1 ≤ d)  {I : Nat → Nat → Int32} {E : Nat → Nat → Option Nat} {r0 : (Nat → Int32) × (Nat → Int32)} (hf : f_X14_forget (I 492) (I 511) = some r0) : q_Ct g m_X14_forget d 0 0 [] [.ref 520] (q_hp (t, r, 1, z, N, ext, rx, L) I E) (fun o h' => o = .inl none ∧ h' = q_hp (t, r, 1, z, N, ext, rx, L) (q_ws I [(492, r0.1), (511, r0.2)]) (q_ws E [])) := by
  rw [f_X14_forget] at hf
  refine q_Ct_of ok_X14_forget (Nat.le_of_ble_eq_true rfl) ?_ _ rfl rfl
  change q_J g m_X14_forget d 0 0 _ [] _ 0 0 (q_kc (t, r, 1, z, N, ext, rx, L) I E 0 [some (.ref 520), none] [] [] [])
  refine q_blk 6 [] (c' := q_kc (t, r, 1, z, N, ext, rx, L) I E 6 [some (.ref 520), some (.int (0 : Int32))] [] [(492, (q_up (I 492) 16 (0 : Int32)))] []) ok_X14_forget rfl q_cn ?_
  obtain ⟨r3, hr3, hf⟩ := q_bd hf
  refine lp_X14_forget_L6_520 (I := q_ws I [(492, (q_up (I 492) 16 (0 : Int32)))]) (E := q_ws E []) hd (Nat.le_of_ble_eq_true rfl) (Nat.le_of_ble_eq_true rfl) 4096 hr3 ?_
  refine q_Jmrg (lI' := [(492, (q_up (I 492) 16 (0 : Int32))), (511, r3)]) (lE' := []) (q_mgw rfl rfl) (q_mgw rfl rfl) ?_
  cases hf
  exact q_krv ok_X14_forget rfl rfl (Nat.le_of_ble_eq_true rfl) (Nat.le_of_ble_eq_true rfl) ⟨rfl, q_hpe (q_pdw [492, 511] rfl rfl) (q_pdw [] rfl rfl)⟩
set_option maxHeartbeats 4000000 in
theorem ct_X14_comeTo_520 {g : q_G} {t : Nat} {r : Nat} {z : Nat} {N : Nat} {ext : Nat → q_Sh} {rx : Nat → Nat → Option Nat} {L : Nat → Nat → Int64} {d : Nat} (hd : 1 ≤ d)  {I : Nat → Nat → Int32} {E : Nat → Nat → Option Nat} {x1 : Int32} {r0 : (Nat → Int32) × (Nat → Int32) × (Nat → Int32)} (hf : f_X14_comeTo (I 492) (I 510) (I 511) x1 = some r0) : q_Ct g m_X14_comeTo d 0 0 [] [.ref 520, .int x1] (q_hp (t, r, 1, z, N, ext, rx, L) I E) (fun o h' => o = .inl none ∧ h' = q_hp (t, r, 1, z, N, ext, rx, L) (q_ws I [(492, r0.1), (510, r0.2.1), (511, r0.2.2)]) (q_ws E [])) := by
  rw [f_X14_comeTo] at hf
  refine q_Ct_of ok_X14_comeTo (Nat.le_of_ble_eq_true rfl) ?_ _ rfl rfl
  change q_J g m_X14_comeTo d 0 0 _ [] _ 0 0 (q_kc (t, r, 1, z, N, ext, rx, L) I E 0 [some (.ref 520), some (.int x1)] [] [] [])
  refine q_blf 2 [] (a := q_kc (t, r, 1, z, N, ext, rx, L) I E 9 [some (.ref 520), some (.int x1)] [] [] []) (b := q_kc (t, r, 1, z, N, ext, rx, L) I E 3 [some (.ref 520), some (.int x1)] [] [] []) (P := x1 = (-1 : Int32)) ok_X14_comeTo rfl q_cn (fun h1 => ?_) (fun h1 => ?_)
  · have hf := q_ip h1 hf
    cases hf
    exact q_krv ok_X14_comeTo rfl rfl (Nat.le_of_ble_eq_true rfl) (Nat.le_of_ble_eq_true rfl) ⟨rfl, q_hpe (q_pdw [492, 510, 511] rfl rfl) (q_pdw [] rfl rfl)⟩
  · have hf := q_in h1 hf
    obtain ⟨j2, hj2, hf⟩ := q_bd hf
    refine q_blf 5 [j2] (a := q_kc (t, r, 1, z, N, ext, rx, L) I E 10 [some (.ref 520), some (.int x1)] [] [] []) (b := q_kc (t, r, 1, z, N, ext, rx, L) I E 9 [some (.ref 520), some (.int x1)] [] [] []) (P := ((I 511) j2) = 0) ok_X14_comeTo rfl (q_cc hj2 q_cn) (fun h3 => ?_) (fun h3 => ?_)
    · have hf := q_ip h3 hf
      obtain ⟨j4, hj4, hf⟩ := q_bd hf
      obtain ⟨j5, hj5, hf⟩ := q_bd hf
      refine q_blk 21 [j4, j5] (c' := q_kc (t, r, 1, z, N, ext, rx, L) I E 31 [some (.ref 520), some (.int x1)] [] [(492, (q_up (I 492) 16 (((I 492) 16) + (1 : Int32)))), (510, (q_up (I 510) j5 x1)), (511, (q_up (I 511) j4 (1 : Int32)))] []) ok_X14_comeTo rfl (q_cc hj5 (q_cc hj4 q_cn)) ?_
      cases hf
      exact q_krv ok_X14_comeTo rfl rfl (Nat.le_of_ble_eq_true rfl) (Nat.le_of_ble_eq_true rfl) ⟨rfl, q_hpe (q_pdw [492, 510, 511] rfl rfl) (q_pdw [] rfl rfl)⟩
    · have hf := q_in h3 hf
      cases hf
      exact q_krv ok_X14_comeTo rfl rfl (Nat.le_of_ble_eq_true rfl) (Nat.le_of_ble_eq_true rfl) ⟨rfl, q_hpe (q_pdw [492, 510, 511] rfl rfl) (q_pdw [] rfl rfl)⟩
set_option maxHeartbeats 4000000 in
theorem lp_X14_at_L2_520 {g : q_G} {d mc ms : Nat} {h0 : q_H} {Q : (Option Value ⊕ String) → q_H → Prop} {k n : Nat} {t : Nat} {r : Nat} {m : Nat} {z : Nat} {N : Nat} {ext : Nat → q_Sh} {rx : Nat → Nat → Option Nat} {L : Nat → Nat → Int64} (hd : 1 ≤ d) (hk : k ≤ mc) (hn : n ≤ ms)  {v1 : Int32} {v2 : Int32} : ∀ (fu : Nat) {I : Nat → Nat → Int32} {E : Nat → Nat → Option Nat} {v3 : Int32} {r0 : Nat × Int32} (hf : f_X14_at_L2 (I 522) (I 523) (I 524) v1 v2 fu v3 = some r0) (hK0 : r0.1 = 0 → q_J g m_X14_at d mc ms h0 [] Q k n (q_kc (t, r, m, z, N, ext, rx, L) I E 32 [none, none, none, none] [] [] [])) (hK1 : r0.1 = 1 → q_J g m_X14_at d mc ms h0 [] Q k n (q_kc (t, r, m, z, N, ext, rx, L) I E 28 [none, none, none, some (.int r0.2)] [] [] [])), q_J g m_X14_at d mc ms h0 [] Q k n (2, [some (.ref 520), some (.int v1), some (.int v2), some (.int v3)], [], q_hp (t, r, m, z, N, ext, rx, L) I E) := by
  intro fu
  induction fu with
  | zero =>
    intro I E v3 r0 hf hK0 hK1
    rw [f_X14_at_L2] at hf
    cases hf
  | succ fu ih =>
    intro I E v3 r0 hf hK0 hK1
    rw [f_X14_at_L2] at hf
    change q_J g m_X14_at d mc ms h0 [] Q k n (q_kc (t, r, m, z, N, ext, rx, L) I E 2 [some (.ref 520), some (.int v1), some (.int v2), some (.int v3)] [] [] [])
    refine q_blf 2 [] (a := q_kc (t, r, m, z, N, ext, rx, L) I E 32 [some (.ref 520), some (.int v1), some (.int v2), some (.int v3)] [] [] []) (b := q_kc (t, r, m, z, N, ext, rx, L) I E 5 [some (.ref 520), some (.int v1), some (.int v2), some (.int v3)] [] [] []) (P := (136 : Int32) ≤ v3) ok_X14_at rfl q_cn (fun h1 => ?_) (fun h1 => ?_)
    · have hf := q_ip h1 hf
      refine q_less (ls' := [none, none, none, none]) (q_sb1 (q_sb1 (q_sb1 (q_sb1 q_sb0)))) ?_
      cases hf
      exact q_Jpad (q_pdw [] rfl rfl) (q_pdw [] rfl rfl) (hK0 rfl)
    · have hf := q_in h1 hf
      obtain ⟨j2, hj2, hf⟩ := q_bd hf
      refine q_blf 5 [j2] (a := q_kc (t, r, m, z, N, ext, rx, L) I E 30 [some (.ref 520), some (.int v1), some (.int v2), some (.int v3)] [] [] []) (b := q_kc (t, r, m, z, N, ext, rx, L) I E 11 [some (.ref 520), some (.int v1), some (.int v2), some (.int v3)] [] [] []) (P := ¬ ((I 522) j2) = v1) ok_X14_at rfl (q_cc hj2 q_cn) (fun h3 => ?_) (fun h3 => ?_)
      · have hf := q_ip h3 hf
        refine q_blk 2 [] (c' := q_kc (t, r, m, z, N, ext, rx, L) I E 2 [some (.ref 520), some (.int v1), some (.int v2), some (.int (v3 + 1))] [] [] []) ok_X14_at rfl q_cn ?_
        exact ih (I := q_ws I []) (E := q_ws E []) hf (fun hz => q_Jmrg (q_mgw rfl rfl) (q_mgw rfl rfl) (hK0 hz)) (fun hz => q_Jmrg (q_mgw rfl rfl) (q_mgw rfl rfl) (hK1 hz))
      · have hf := q_in h3 hf
        obtain ⟨j4, hj4, hf⟩ := q_bd hf
        refine q_blf 5 [j4] (a := q_kc (t, r, m, z, N, ext, rx, L) I E 30 [some (.ref 520), some (.int v1), some (.int v2), some (.int v3)] [] [] []) (b := q_kc (t, r, m, z, N, ext, rx, L) I E 17 [some (.ref 520), some (.int v1), some (.int v2), some (.int v3)] [] [] []) (P := v2 < ((I 523) j4)) ok_X14_at rfl (q_cc hj4 q_cn) (fun h5 => ?_) (fun h5 => ?_)
        · have hf := q_ip h5 hf
          refine q_blk 2 [] (c' := q_kc (t, r, m, z, N, ext, rx, L) I E 2 [some (.ref 520), some (.int v1), some (.int v2), some (.int (v3 + 1))] [] [] []) ok_X14_at rfl q_cn ?_
          exact ih (I := q_ws I []) (E := q_ws E []) hf (fun hz => q_Jmrg (q_mgw rfl rfl) (q_mgw rfl rfl) (hK0 hz)) (fun hz => q_Jmrg (q_mgw rfl rfl) (q_mgw rfl rfl) (hK1 hz))
        · have hf := q_in h5 hf
          obtain ⟨j6, hj6, hf⟩ := q_bd hf
          obtain ⟨j7, hj7, hf⟩ := q_bd hf
          refine q_blf 10 [j6, j7] (a := q_kc (t, r, m, z, N, ext, rx, L) I E 30 [some (.ref 520), some (.int v1), some (.int v2), some (.int v3)] [] [] []) (b := q_kc (t, r, m, z, N, ext, rx, L) I E 28 [some (.ref 520), some (.int v1), some (.int v2), some (.int v3)] [] [] []) (P := (((I 523) j6) + ((I 524) j7)) ≤ v2) ok_X14_at rfl (q_cc hj7 (q_cc hj6 q_cn)) (fun h8 => ?_) (fun h8 => ?_)
          · have hf := q_ip h8 hf
            refine q_blk 2 [] (c' := q_kc (t, r, m, z, N, ext, rx, L) I E 2 [some (.ref 520), some (.int v1), some (.int v2), some (.int (v3 + 1))] [] [] []) ok_X14_at rfl q_cn ?_
            exact ih (I := q_ws I []) (E := q_ws E []) hf (fun hz => q_Jmrg (q_mgw rfl rfl) (q_mgw rfl rfl) (hK0 hz)) (fun hz => q_Jmrg (q_mgw rfl rfl) (q_mgw rfl rfl) (hK1 hz))
          · have hf := q_in h8 hf
            refine q_less (ls' := [none, none, none, some (.int v3)]) (q_sb1 (q_sb1 (q_sb1 (q_sb2 q_sb0)))) ?_
            cases hf
            exact q_Jpad (q_pdw [] rfl rfl) (q_pdw [] rfl rfl) (hK1 rfl)
set_option maxHeartbeats 4000000 in
theorem ct_X14_at_520 {g : q_G} {t : Nat} {r : Nat} {m : Nat} {z : Nat} {N : Nat} {ext : Nat → q_Sh} {rx : Nat → Nat → Option Nat} {L : Nat → Nat → Int64} {d : Nat} (hd : 1 ≤ d)  {I : Nat → Nat → Int32} {E : Nat → Nat → Option Nat} {x1 : Int32} {x2 : Int32} {r0 : Int32} (hf : f_X14_at (I 522) (I 523) (I 524) x1 x2 = some r0) : q_Ct g m_X14_at d 0 0 [] [.ref 520, .int x1, .int x2] (q_hp (t, r, m, z, N, ext, rx, L) I E) (fun o h' => o = .inl (some (.int r0)) ∧ h' = q_hp (t, r, m, z, N, ext, rx, L) (q_ws I []) (q_ws E [])) := by
  rw [f_X14_at] at hf
  refine q_Ct_of ok_X14_at (Nat.le_of_ble_eq_true rfl) ?_ _ rfl rfl
  change q_J g m_X14_at d 0 0 _ [] _ 0 0 (q_kc (t, r, m, z, N, ext, rx, L) I E 0 [some (.ref 520), some (.int x1), some (.int x2), none] [] [] [])
  refine q_blk 2 [] (c' := q_kc (t, r, m, z, N, ext, rx, L) I E 2 [some (.ref 520), some (.int x1), some (.int x2), some (.int (0 : Int32))] [] [] []) ok_X14_at rfl q_cn ?_
  obtain ⟨r9, hr9, hf⟩ := q_bd hf
  refine lp_X14_at_L2_520 (I := q_ws I []) (E := q_ws E []) hd (Nat.le_of_ble_eq_true rfl) (Nat.le_of_ble_eq_true rfl) 4096 hr9 ?_ ?_
  · intro hz0
    have hf := q_ip hz0 hf
    refine q_Jmrg (lI' := []) (lE' := []) (q_mgw rfl rfl) (q_mgw rfl rfl) ?_
    refine q_blk 1 [] (c' := q_kc (t, r, m, z, N, ext, rx, L) I E 33 [none, none, none, none] [.int (-1 : Int32)] [] []) ok_X14_at rfl q_cn ?_
    cases hf
    exact q_kri ok_X14_at rfl rfl rfl (Nat.le_of_ble_eq_true rfl) (Nat.le_of_ble_eq_true rfl) ⟨rfl, q_hpe (q_pdw [] rfl rfl) (q_pdw [] rfl rfl)⟩
  · intro hz1
    have hf := q_in (fun h9 => absurd (hz1.symm.trans h9) (by decide)) hf
    refine q_Jmrg (lI' := []) (lE' := []) (q_mgw rfl rfl) (q_mgw rfl rfl) ?_
    refine q_blk 1 [] (c' := q_kc (t, r, m, z, N, ext, rx, L) I E 29 [none, none, none, some (.int r9.2)] [.int r9.2] [] []) ok_X14_at rfl q_cn ?_
    cases hf
    exact q_kri ok_X14_at rfl rfl rfl (Nat.le_of_ble_eq_true rfl) (Nat.le_of_ble_eq_true rfl) ⟨rfl, q_hpe (q_pdw [] rfl rfl) (q_pdw [] rfl rfl)⟩
set_option maxHeartbeats 4000000 in
theorem lp_X14_emptyFrom_L2_520 {g : q_G} {d mc ms : Nat} {h0 : q_H} {Q : (Option Value ⊕ String) → q_H → Prop} {k n : Nat} {t : Nat} {r : Nat} {z : Nat} {N : Nat} {ext : Nat → q_Sh} {rx : Nat → Nat → Option Nat} {L : Nat → Nat → Int64} (hd : 2 ≤ d) (hk : k ≤ mc) (hn : n ≤ ms)  {v1 : Int32} : ∀ (fu : Nat) {I : Nat → Nat → Int32} {E : Nat → Nat → Option Nat} {v2 : Int32} {r0 : Int32} (hf : f_X14_emptyFrom_L2 (I 499) (I 522) (I 523) (I 524) v1 fu v2 = some r0) (hK0 : q_J g m_X14_emptyFrom d mc ms h0 [] Q k n (q_kc (t, r, 1, z, N, ext, rx, L) I E 20 [none, none, some (.int r0)] [] [] [])), q_J g m_X14_emptyFrom d mc ms h0 [] Q k n (2, [some (.ref 520), some (.int v1), some (.int v2)], [], q_hp (t, r, 1, z, N, ext, rx, L) I E) := by
  intro fu
  induction fu with
  | zero =>
    intro I E v2 r0 hf hK0
    rw [f_X14_emptyFrom_L2] at hf
    cases hf
  | succ fu ih =>
    intro I E v2 r0 hf hK0
    rw [f_X14_emptyFrom_L2] at hf
    change q_J g m_X14_emptyFrom d mc ms h0 [] Q k n (q_kc (t, r, 1, z, N, ext, rx, L) I E 2 [some (.ref 520), some (.int v1), some (.int v2)] [] [] [])
    refine q_blf 7 [] (a := q_kc (t, r, 1, z, N, ext, rx, L) I E 20 [some (.ref 520), some (.int v1), some (.int v2)] [] [] []) (b := q_kc (t, r, 1, z, N, ext, rx, L) I E 10 [some (.ref 520), some (.int v1), some (.int v2)] [] [] []) (P := ((I 499) 2) ≤ (v1 + v2)) ok_X14_emptyFrom rfl q_cn (fun h1 => ?_) (fun h1 => ?_)
    · have hf := q_ip h1 hf
      refine q_less (ls' := [none, none, some (.int v2)]) (q_sb1 (q_sb1 (q_sb2 q_sb0))) ?_
      cases hf
      exact q_Jpad (q_pdw [] rfl rfl) (q_pdw [] rfl rfl) hK0
    · have hf := q_in h1 hf
      refine q_blk 5 [] (c' := q_kc (t, r, 1, z, N, ext, rx, L) I E 15 [some (.ref 520), some (.int v1), some (.int v2)] [.int (v1 + v2), .int (2 : Int32), .ref 520] [] []) ok_X14_emptyFrom rfl q_cn ?_
      obtain ⟨r2, hr2, hf⟩ := q_bd hf
      refine q_kV (M2 := m_X14_at) (As := [.int (2 : Int32), .int (v1 + v2)]) (b := 520) (v2 := some (.int r2)) ok_X14_emptyFrom ok_X14_at cv_X14_at (ct_X14_at_520 (d := 1) (Nat.le_refl _) hr2) rfl rfl (Or.inl rfl) rfl rfl rfl rfl (Nat.le_trans (Nat.le_of_ble_eq_true rfl) hd) hk hn (Nat.le_of_ble_eq_true rfl) (fun x hx => absurd hx List.not_mem_nil) (q_nmL0 _) (q_nmS0 _) rfl (pos' := 16) (st' := [.int r2]) (lI' := []) (lE' := []) rfl rfl rfl rfl ?_
      refine q_blf 1 [] (a := q_kc (t, r, 1, z, N, ext, rx, L) I E 20 [some (.ref 520), some (.int v1), some (.int v2)] [] [] []) (b := q_kc (t, r, 1, z, N, ext, rx, L) I E 18 [some (.ref 520), some (.int v1), some (.int v2)] [] [] []) (P := ¬ r2 = (-1 : Int32)) ok_X14_emptyFrom rfl q_cn (fun h3 => ?_) (fun h3 => ?_)
      · have hf := q_ip h3 hf
        refine q_less (ls' := [none, none, some (.int v2)]) (q_sb1 (q_sb1 (q_sb2 q_sb0))) ?_
        cases hf
        exact q_Jpad (q_pdw [] rfl rfl) (q_pdw [] rfl rfl) hK0
      · have hf := q_in h3 hf
        refine q_blk 2 [] (c' := q_kc (t, r, 1, z, N, ext, rx, L) I E 2 [some (.ref 520), some (.int v1), some (.int (v2 + 1))] [] [] []) ok_X14_emptyFrom rfl q_cn ?_
        exact ih (I := q_ws I []) (E := q_ws E []) hf (q_Jmrg (q_mgw rfl rfl) (q_mgw rfl rfl) hK0)
set_option maxHeartbeats 4000000 in
theorem ct_X14_emptyFrom_520 {g : q_G} {t : Nat} {r : Nat} {z : Nat} {N : Nat} {ext : Nat → q_Sh} {rx : Nat → Nat → Option Nat} {L : Nat → Nat → Int64} {d : Nat} (hd : 2 ≤ d)  {I : Nat → Nat → Int32} {E : Nat → Nat → Option Nat} {x1 : Int32} {r0 : Int32} (hf : f_X14_emptyFrom (I 499) (I 522) (I 523) (I 524) x1 = some r0) : q_Ct g m_X14_emptyFrom d 0 0 [] [.ref 520, .int x1] (q_hp (t, r, 1, z, N, ext, rx, L) I E) (fun o h' => o = .inl (some (.int r0)) ∧ h' = q_hp (t, r, 1, z, N, ext, rx, L) (q_ws I []) (q_ws E [])) := by
  rw [f_X14_emptyFrom] at hf
  refine q_Ct_of ok_X14_emptyFrom (Nat.le_of_ble_eq_true rfl) ?_ _ rfl rfl
  change q_J g m_X14_emptyFrom d 0 0 _ [] _ 0 0 (q_kc (t, r, 1, z, N, ext, rx, L) I E 0 [some (.ref 520), some (.int x1), none] [] [] [])
  refine q_blk 2 [] (c' := q_kc (t, r, 1, z, N, ext, rx, L) I E 2 [some (.ref 520), some (.int x1), some (.int (0 : Int32))] [] [] []) ok_X14_emptyFrom rfl q_cn ?_
  obtain ⟨r4, hr4, hf⟩ := q_bd hf
  refine lp_X14_emptyFrom_L2_520 (I := q_ws I []) (E := q_ws E []) hd (Nat.le_of_ble_eq_true rfl) (Nat.le_of_ble_eq_true rfl) 4096 hr4 ?_
  refine q_Jmrg (lI' := []) (lE' := []) (q_mgw rfl rfl) (q_mgw rfl rfl) ?_
  refine q_blk 1 [] (c' := q_kc (t, r, 1, z, N, ext, rx, L) I E 21 [none, none, some (.int r4)] [.int r4] [] []) ok_X14_emptyFrom rfl q_cn ?_
  cases hf
  exact q_kri ok_X14_emptyFrom rfl rfl rfl (Nat.le_of_ble_eq_true rfl) (Nat.le_of_ble_eq_true rfl) ⟨rfl, q_hpe (q_pdw [] rfl rfl) (q_pdw [] rfl rfl)⟩
set_option maxHeartbeats 4000000 in
theorem lp_X14_gapFor_L2_520 {g : q_G} {d mc ms : Nat} {h0 : q_H} {Q : (Option Value ⊕ String) → q_H → Prop} {k n : Nat} {t : Nat} {r : Nat} {z : Nat} {N : Nat} {ext : Nat → q_Sh} {rx : Nat → Nat → Option Nat} {L : Nat → Nat → Int64} (hd : 3 ≤ d) (hk : k ≤ mc) (hn : n ≤ ms)  {v1 : Int32} : ∀ (fu : Nat) {I : Nat → Nat → Int32} {E : Nat → Nat → Option Nat} {v2 : Int32} {r0 : Nat × Int32} (hf : f_X14_gapFor_L2 (I 499) (I 522) (I 523) (I 524) v1 fu v2 = some r0) (hK0 : r0.1 = 0 → q_J g m_X14_gapFor d mc ms h0 [] Q k n (q_kc (t, r, 1, z, N, ext, rx, L) I E 19 [none, none, none] [] [] [])) (hK1 : r0.1 = 1 → q_J g m_X14_gapFor d mc ms h0 [] Q k n (q_kc (t, r, 1, z, N, ext, rx, L) I E 15 [none, none, some (.int r0.2)] [] [] [])), q_J g m_X14_gapFor d mc ms h0 [] Q k n (2, [some (.ref 520), some (.int v1), some (.int v2)], [], q_hp (t, r, 1, z, N, ext, rx, L) I E) := by
  intro fu
  induction fu with
  | zero =>
    intro I E v2 r0 hf hK0 hK1
    rw [f_X14_gapFor_L2] at hf
    cases hf
  | succ fu ih =>
    intro I E v2 r0 hf hK0 hK1
    rw [f_X14_gapFor_L2] at hf
    change q_J g m_X14_gapFor d mc ms h0 [] Q k n (q_kc (t, r, 1, z, N, ext, rx, L) I E 2 [some (.ref 520), some (.int v1), some (.int v2)] [] [] [])
    refine q_blf 7 [] (a := q_kc (t, r, 1, z, N, ext, rx, L) I E 19 [some (.ref 520), some (.int v1), some (.int v2)] [] [] []) (b := q_kc (t, r, 1, z, N, ext, rx, L) I E 10 [some (.ref 520), some (.int v1), some (.int v2)] [] [] []) (P := ((I 499) 2) < (v2 + v1)) ok_X14_gapFor rfl q_cn (fun h1 => ?_) (fun h1 => ?_)
    · have hf := q_ip h1 hf
      refine q_less (ls' := [none, none, none]) (q_sb1 (q_sb1 (q_sb1 q_sb0))) ?_
      cases hf
      exact q_Jpad (q_pdw [] rfl rfl) (q_pdw [] rfl rfl) (hK0 rfl)
    · have hf := q_in h1 hf
      refine q_blk 2 [] (c' := q_kc (t, r, 1, z, N, ext, rx, L) I E 12 [some (.ref 520), some (.int v1), some (.int v2)] [.int v2, .ref 520] [] []) ok_X14_gapFor rfl q_cn ?_
      obtain ⟨r2, hr2, hf⟩ := q_bd hf
      refine q_kV (M2 := m_X14_emptyFrom) (As := [.int v2]) (b := 520) (v2 := some (.int r2)) ok_X14_gapFor ok_X14_emptyFrom cv_X14_emptyFrom (ct_X14_emptyFrom_520 (d := 2) (Nat.le_refl _) hr2) rfl rfl (Or.inl rfl) rfl rfl rfl rfl (Nat.le_trans (Nat.le_of_ble_eq_true rfl) hd) hk hn (Nat.le_of_ble_eq_true rfl) (fun x hx => absurd hx List.not_mem_nil) (q_nmL0 _) (q_nmS0 _) rfl (pos' := 13) (st' := [.int r2]) (lI' := []) (lE' := []) rfl rfl rfl rfl ?_
      refine q_blf 1 [] (a := q_kc (t, r, 1, z, N, ext, rx, L) I E 17 [some (.ref 520), some (.int v1), some (.int v2)] [] [] []) (b := q_kc (t, r, 1, z, N, ext, rx, L) I E 15 [some (.ref 520), some (.int v1), some (.int v2)] [] [] []) (P := r2 < v1) ok_X14_gapFor rfl q_cn (fun h3 => ?_) (fun h3 => ?_)
      · have hf := q_ip h3 hf
        refine q_blk 2 [] (c' := q_kc (t, r, 1, z, N, ext, rx, L) I E 2 [some (.ref 520), some (.int v1), some (.int (v2 + 1))] [] [] []) ok_X14_gapFor rfl q_cn ?_
        exact ih (I := q_ws I []) (E := q_ws E []) hf (fun hz => q_Jmrg (q_mgw rfl rfl) (q_mgw rfl rfl) (hK0 hz)) (fun hz => q_Jmrg (q_mgw rfl rfl) (q_mgw rfl rfl) (hK1 hz))
      · have hf := q_in h3 hf
        refine q_less (ls' := [none, none, some (.int v2)]) (q_sb1 (q_sb1 (q_sb2 q_sb0))) ?_
        cases hf
        exact q_Jpad (q_pdw [] rfl rfl) (q_pdw [] rfl rfl) (hK1 rfl)
set_option maxHeartbeats 4000000 in
theorem ct_X14_gapFor_520 {g : q_G} {t : Nat} {r : Nat} {z : Nat} {N : Nat} {ext : Nat → q_Sh} {rx : Nat → Nat → Option Nat} {L : Nat → Nat → Int64} {d : Nat} (hd : 3 ≤ d)  {I : Nat → Nat → Int32} {E : Nat → Nat → Option Nat} {x1 : Int32} {r0 : Int32} (hf : f_X14_gapFor (I 499) (I 522) (I 523) (I 524) x1 = some r0) : q_Ct g m_X14_gapFor d 0 0 [] [.ref 520, .int x1] (q_hp (t, r, 1, z, N, ext, rx, L) I E) (fun o h' => o = .inl (some (.int r0)) ∧ h' = q_hp (t, r, 1, z, N, ext, rx, L) (q_ws I []) (q_ws E [])) := by
  rw [f_X14_gapFor] at hf
  refine q_Ct_of ok_X14_gapFor (Nat.le_of_ble_eq_true rfl) ?_ _ rfl rfl
  change q_J g m_X14_gapFor d 0 0 _ [] _ 0 0 (q_kc (t, r, 1, z, N, ext, rx, L) I E 0 [some (.ref 520), some (.int x1), none] [] [] [])
  refine q_blk 2 [] (c' := q_kc (t, r, 1, z, N, ext, rx, L) I E 2 [some (.ref 520), some (.int x1), some (.int (0 : Int32))] [] [] []) ok_X14_gapFor rfl q_cn ?_
  obtain ⟨r4, hr4, hf⟩ := q_bd hf
  refine lp_X14_gapFor_L2_520 (I := q_ws I []) (E := q_ws E []) hd (Nat.le_of_ble_eq_true rfl) (Nat.le_of_ble_eq_true rfl) 4096 hr4 ?_ ?_
  · intro hz0
    have hf := q_ip hz0 hf
    refine q_Jmrg (lI' := []) (lE' := []) (q_mgw rfl rfl) (q_mgw rfl rfl) ?_
    refine q_blk 1 [] (c' := q_kc (t, r, 1, z, N, ext, rx, L) I E 20 [none, none, none] [.int (-1 : Int32)] [] []) ok_X14_gapFor rfl q_cn ?_
    cases hf
    exact q_kri ok_X14_gapFor rfl rfl rfl (Nat.le_of_ble_eq_true rfl) (Nat.le_of_ble_eq_true rfl) ⟨rfl, q_hpe (q_pdw [] rfl rfl) (q_pdw [] rfl rfl)⟩
  · intro hz1
    have hf := q_in (fun h9 => absurd (hz1.symm.trans h9) (by decide)) hf
    refine q_Jmrg (lI' := []) (lE' := []) (q_mgw rfl rfl) (q_mgw rfl rfl) ?_
    refine q_blk 1 [] (c' := q_kc (t, r, 1, z, N, ext, rx, L) I E 16 [none, none, some (.int r4.2)] [.int r4.2] [] []) ok_X14_gapFor rfl q_cn ?_
    cases hf
    exact q_kri ok_X14_gapFor rfl rfl rfl (Nat.le_of_ble_eq_true rfl) (Nat.le_of_ble_eq_true rfl) ⟨rfl, q_hpe (q_pdw [] rfl rfl) (q_pdw [] rfl rfl)⟩
set_option maxHeartbeats 4000000 in
theorem ct_X14_takeOver_520_529_O {g : q_G} {t : Nat} {r : Nat} {z : Nat} {ext : Nat → q_Sh} {rx : Nat → Nat → Option Nat} {L : Nat → Nat → Int64} {d : Nat} (hd : 4 ≤ d)  {I : Nat → Nat → Int32} {E : Nat → Nat → Option Nat} {x1 : Int32} {x2 : Int32} {r0 : Int32 × (Nat → Int32) × (Nat → Int32) × (Nat → Int32) × (Nat → Int32) × (Nat → Int32) × (Nat → Int32) × (Nat → Int32)} (hf : f_X14_takeOver (I 492) (I 499) (I 510) (I 511) (I 520) (I 522) (I 523) (I 524) (I 526) (I 529) x1 x2 = some r0) : q_Ct g m_X14_takeOver d 0 0 [] [.ref 520, .int x1, .int x2, .ref 529] (q_hp (t, r, 1, z, 530, (q_ur ext 529 (1, 0, 136)), rx, L) I E) (fun o h' => o = .inl (some (.int r0.1)) ∧ h' = q_hp (t, r, 1, z, 530, (q_ur ext 529 (1, 0, 136)), rx, L) (q_ws I [(492, r0.2.1), (510, r0.2.2.1), (511, r0.2.2.2.1), (520, r0.2.2.2.2.1), (522, r0.2.2.2.2.2.1), (523, r0.2.2.2.2.2.2.1), (526, r0.2.2.2.2.2.2.2)]) (q_ws E [])) := by
  rw [f_X14_takeOver] at hf
  refine q_Ct_of ok_X14_takeOver (Nat.le_of_ble_eq_true rfl) ?_ _ rfl rfl
  change q_J g m_X14_takeOver d 0 0 _ [] _ 0 0 (q_kc (t, r, 1, z, 530, (q_ur ext 529 (1, 0, 136)), rx, L) I E 0 [some (.ref 520), some (.int x1), some (.int x2), some (.ref 529), none] [] [] [])
  refine q_blf 2 [] (a := q_kc (t, r, 1, z, 530, (q_ur ext 529 (1, 0, 136)), rx, L) I E 14 [some (.ref 520), some (.int x1), some (.int x2), some (.ref 529), none] [] [] []) (b := q_kc (t, r, 1, z, 530, (q_ur ext 529 (1, 0, 136)), rx, L) I E 3 [some (.ref 520), some (.int x1), some (.int x2), some (.ref 529), none] [] [] []) (P := x1 = (-1 : Int32)) ok_X14_takeOver rfl q_cn (fun h1 => ?_) (fun h1 => ?_)
  · have hf := q_ip h1 hf
    refine q_blk 1 [] (c' := q_kc (t, r, 1, z, 530, (q_ur ext 529 (1, 0, 136)), rx, L) I E 15 [some (.ref 520), some (.int x1), some (.int x2), some (.ref 529), none] [.int x2] [] []) ok_X14_takeOver rfl q_cn ?_
    cases hf
    exact q_kri ok_X14_takeOver rfl rfl rfl (Nat.le_of_ble_eq_true rfl) (Nat.le_of_ble_eq_true rfl) ⟨rfl, q_hpe (q_pdw [492, 510, 511, 520, 522, 523, 526] rfl rfl) (q_pdw [] rfl rfl)⟩
  · have hf := q_in h1 hf
    obtain ⟨j2, hj2, hf⟩ := q_bd hf
    refine q_blf 4 [j2] (a := q_kc (t, r, 1, z, 530, (q_ur ext 529 (1, 0, 136)), rx, L) I E 14 [some (.ref 520), some (.int x1), some (.int x2), some (.ref 529), none] [] [] []) (b := q_kc (t, r, 1, z, 530, (q_ur ext 529 (1, 0, 136)), rx, L) I E 8 [some (.ref 520), some (.int x1), some (.int x2), some (.ref 529), none] [] [] []) (P := ¬ ((I 529) j2) = (1 : Int32)) ok_X14_takeOver rfl (q_cc hj2 q_cn) (fun h3 => ?_) (fun h3 => ?_)
    · have hf := q_ip h3 hf
      refine q_blk 1 [] (c' := q_kc (t, r, 1, z, 530, (q_ur ext 529 (1, 0, 136)), rx, L) I E 15 [some (.ref 520), some (.int x1), some (.int x2), some (.ref 529), none] [.int x2] [] []) ok_X14_takeOver rfl q_cn ?_
      cases hf
      exact q_kri ok_X14_takeOver rfl rfl rfl (Nat.le_of_ble_eq_true rfl) (Nat.le_of_ble_eq_true rfl) ⟨rfl, q_hpe (q_pdw [492, 510, 511, 520, 522, 523, 526] rfl rfl) (q_pdw [] rfl rfl)⟩
    · have hf := q_in h3 hf
      obtain ⟨j4, hj4, hf⟩ := q_bd hf
      refine q_blf 5 [j4] (a := q_kc (t, r, 1, z, 530, (q_ur ext 529 (1, 0, 136)), rx, L) I E 16 [some (.ref 520), some (.int x1), some (.int x2), some (.ref 529), none] [] [] []) (b := q_kc (t, r, 1, z, 530, (q_ur ext 529 (1, 0, 136)), rx, L) I E 14 [some (.ref 520), some (.int x1), some (.int x2), some (.ref 529), none] [] [] []) (P := ((I 511) j4) = 0) ok_X14_takeOver rfl (q_cc hj4 q_cn) (fun h5 => ?_) (fun h5 => ?_)
      · have hf := q_ip h5 hf
        refine q_blk 2 [] (c' := q_kc (t, r, 1, z, 530, (q_ur ext 529 (1, 0, 136)), rx, L) I E 18 [some (.ref 520), some (.int x1), some (.int x2), some (.ref 529), none] [.int x1, .ref 520] [] []) ok_X14_takeOver rfl q_cn ?_
        obtain ⟨r6, hr6, hf⟩ := q_bd hf
        refine q_kV (M2 := m_X14_comeTo) (As := [.int x1]) (b := 520) (v2 := none) ok_X14_takeOver ok_X14_comeTo cv_X14_comeTo (ct_X14_comeTo_520 (d := 1) (Nat.le_refl _) hr6) rfl rfl (Or.inl rfl) rfl rfl rfl rfl (Nat.le_trans (Nat.le_of_ble_eq_true rfl) hd) (Nat.le_of_ble_eq_true rfl) (Nat.le_of_ble_eq_true rfl) (Nat.le_of_ble_eq_true rfl) (fun x hx => absurd hx List.not_mem_nil) (q_nmL0 _) (q_nmS0 _) rfl (pos' := 19) (st' := []) (lI' := [(492, r6.1), (510, r6.2.1), (511, r6.2.2)]) (lE' := []) rfl rfl (q_mgw rfl rfl) rfl ?_
        obtain ⟨j7, hj7, hf⟩ := q_bd hf
        refine q_blf 8 [j7] (a := q_kc (t, r, 1, z, 530, (q_ur ext 529 (1, 0, 136)), rx, L) I E 35 [some (.ref 520), some (.int x1), some (.int x2), some (.ref 529), none] [] [(492, r6.1), (510, r6.2.1), (511, r6.2.2)] []) (b := q_kc (t, r, 1, z, 530, (q_ur ext 529 (1, 0, 136)), rx, L) I E 28 [some (.ref 520), some (.int x1), some (.int x2), some (.ref 529), none] [] [(492, r6.1), (510, r6.2.1), (511, r6.2.2)] []) (P := ((I 526) j7) < ((I 499) 3)) ok_X14_takeOver rfl (q_cc hj7 q_cn) (fun h8 => ?_) (fun h8 => ?_)
        · have hf := q_ip h8 hf
          refine q_blf 4 [] (a := q_kc (t, r, 1, z, 530, (q_ur ext 529 (1, 0, 136)), rx, L) I E 58 [some (.ref 520), some (.int x1), some (.int x2), some (.ref 529), some (.int (-1 : Int32))] [] [(492, r6.1), (510, r6.2.1), (511, r6.2.2)] []) (b := q_kc (t, r, 1, z, 530, (q_ur ext 529 (1, 0, 136)), rx, L) I E 40 [some (.ref 520), some (.int x1), some (.int x2), some (.ref 529), some (.int (-1 : Int32))] [] [(492, r6.1), (510, r6.2.1), (511, r6.2.2)] []) (P := (-1 : Int32) = (-1 : Int32)) ok_X14_takeOver rfl q_cn (fun h9 => ?_) (fun h9 => ?_)
          · have hf := q_ip h9 hf
            obtain ⟨j10, hj10, hf⟩ := q_bd hf
            obtain ⟨j11, hj11, hf⟩ := q_bd hf
            obtain ⟨j12, hj12, hf⟩ := q_bd hf
            obtain ⟨j13, hj13, hf⟩ := q_bd hf
            obtain ⟨j14, hj14, hf⟩ := q_bd hf
            refine q_blk 24 [j10, j11, j12, j13, j14] (c' := q_kc (t, r, 1, z, 530, (q_ur ext 529 (1, 0, 136)), rx, L) I E 82 [some (.ref 520), some (.int x1), some (.int x2), some (.ref 529), some (.int (-1 : Int32))] [.int (x2 + ((I 524) j14))] [(492, r6.1), (510, r6.2.1), (511, r6.2.2), (522, (q_up (I 522) j10 (1 : Int32))), (523, (q_up (I 523) j11 x2)), (526, (q_up (I 526) j13 (((I 526) j12) + (1 : Int32))))] []) ok_X14_takeOver rfl (q_cc hj14 (q_cc hj13 (q_cc hj12 (q_cc hj11 (q_cc hj10 q_cn))))) ?_
            cases hf
            exact q_kri ok_X14_takeOver rfl rfl rfl (Nat.le_of_ble_eq_true rfl) (Nat.le_of_ble_eq_true rfl) ⟨rfl, q_hpe (q_pdw [492, 510, 511, 520, 522, 523, 526] rfl rfl) (q_pdw [] rfl rfl)⟩
          · have hf := q_in h9 hf
            obtain ⟨j15, hj15, hf⟩ := q_bd hf
            obtain ⟨j16, hj16, hf⟩ := q_bd hf
            refine q_blk 17 [j15, j16] (c' := q_kc (t, r, 1, z, 530, (q_ur ext 529 (1, 0, 136)), rx, L) I E 57 [some (.ref 520), some (.int x1), some (.int x2), some (.ref 529), some (.int (-1 : Int32))] [.int x2] [(492, r6.1), (510, r6.2.1), (511, r6.2.2), (520, (q_up (I 520) 4 (((I 520) 4) + (1 : Int32)))), (522, (q_up (I 522) j15 (2 : Int32))), (523, (q_up (I 523) j16 (-1 : Int32)))] []) ok_X14_takeOver rfl (q_cc hj16 (q_cc hj15 q_cn)) ?_
            cases hf
            exact q_kri ok_X14_takeOver rfl rfl rfl (Nat.le_of_ble_eq_true rfl) (Nat.le_of_ble_eq_true rfl) ⟨rfl, q_hpe (q_pdw [492, 510, 511, 520, 522, 523, 526] rfl rfl) (q_pdw [] rfl rfl)⟩
        · have hf := q_in h8 hf
          obtain ⟨j17, hj17, hf⟩ := q_bd hf
          refine q_blk 5 [j17] (c' := q_kc (t, r, 1, z, 530, (q_ur ext 529 (1, 0, 136)), rx, L) I E 33 [some (.ref 520), some (.int x1), some (.int x2), some (.ref 529), none] [.int ((I 524) j17), .ref 520] [(492, r6.1), (510, r6.2.1), (511, r6.2.2)] []) ok_X14_takeOver rfl (q_cc hj17 q_cn) ?_
          obtain ⟨r18, hr18, hf⟩ := q_bd hf
          refine q_kV (M2 := m_X14_gapFor) (As := [.int ((I 524) j17)]) (b := 520) (v2 := some (.int r18)) ok_X14_takeOver ok_X14_gapFor cv_X14_gapFor (ct_X14_gapFor_520 (d := 3) (Nat.le_refl _) hr18) rfl rfl (Or.inl rfl) rfl rfl rfl rfl (Nat.le_trans (Nat.le_of_ble_eq_true rfl) hd) (Nat.le_of_ble_eq_true rfl) (Nat.le_of_ble_eq_true rfl) (Nat.le_of_ble_eq_true rfl) (fun x hx => absurd hx List.not_mem_nil) (q_nmL0 _) (q_nmS0 _) rfl (pos' := 34) (st' := [.int r18]) (lI' := [(492, r6.1), (510, r6.2.1), (511, r6.2.2)]) (lE' := []) rfl rfl rfl rfl ?_
          refine q_blf 4 [] (a := q_kc (t, r, 1, z, 530, (q_ur ext 529 (1, 0, 136)), rx, L) I E 58 [some (.ref 520), some (.int x1), some (.int x2), some (.ref 529), some (.int r18)] [] [(492, r6.1), (510, r6.2.1), (511, r6.2.2)] []) (b := q_kc (t, r, 1, z, 530, (q_ur ext 529 (1, 0, 136)), rx, L) I E 40 [some (.ref 520), some (.int x1), some (.int x2), some (.ref 529), some (.int r18)] [] [(492, r6.1), (510, r6.2.1), (511, r6.2.2)] []) (P := r18 = (-1 : Int32)) ok_X14_takeOver rfl q_cn (fun h19 => ?_) (fun h19 => ?_)
          · have hf := q_ip h19 hf
            obtain ⟨j20, hj20, hf⟩ := q_bd hf
            obtain ⟨j21, hj21, hf⟩ := q_bd hf
            obtain ⟨j22, hj22, hf⟩ := q_bd hf
            obtain ⟨j23, hj23, hf⟩ := q_bd hf
            obtain ⟨j24, hj24, hf⟩ := q_bd hf
            refine q_blk 24 [j20, j21, j22, j23, j24] (c' := q_kc (t, r, 1, z, 530, (q_ur ext 529 (1, 0, 136)), rx, L) I E 82 [some (.ref 520), some (.int x1), some (.int x2), some (.ref 529), some (.int r18)] [.int (x2 + ((I 524) j24))] [(492, r6.1), (510, r6.2.1), (511, r6.2.2), (522, (q_up (I 522) j20 (1 : Int32))), (523, (q_up (I 523) j21 x2)), (526, (q_up (I 526) j23 (((I 526) j22) + (1 : Int32))))] []) ok_X14_takeOver rfl (q_cc hj24 (q_cc hj23 (q_cc hj22 (q_cc hj21 (q_cc hj20 q_cn))))) ?_
            cases hf
            exact q_kri ok_X14_takeOver rfl rfl rfl (Nat.le_of_ble_eq_true rfl) (Nat.le_of_ble_eq_true rfl) ⟨rfl, q_hpe (q_pdw [492, 510, 511, 520, 522, 523, 526] rfl rfl) (q_pdw [] rfl rfl)⟩
          · have hf := q_in h19 hf
            obtain ⟨j25, hj25, hf⟩ := q_bd hf
            obtain ⟨j26, hj26, hf⟩ := q_bd hf
            refine q_blk 17 [j25, j26] (c' := q_kc (t, r, 1, z, 530, (q_ur ext 529 (1, 0, 136)), rx, L) I E 57 [some (.ref 520), some (.int x1), some (.int x2), some (.ref 529), some (.int r18)] [.int x2] [(492, r6.1), (510, r6.2.1), (511, r6.2.2), (520, (q_up (I 520) 4 (((I 520) 4) + (1 : Int32)))), (522, (q_up (I 522) j25 (2 : Int32))), (523, (q_up (I 523) j26 r18))] []) ok_X14_takeOver rfl (q_cc hj26 (q_cc hj25 q_cn)) ?_
            cases hf
            exact q_kri ok_X14_takeOver rfl rfl rfl (Nat.le_of_ble_eq_true rfl) (Nat.le_of_ble_eq_true rfl) ⟨rfl, q_hpe (q_pdw [492, 510, 511, 520, 522, 523, 526] rfl rfl) (q_pdw [] rfl rfl)⟩
      · have hf := q_in h5 hf
        refine q_blk 1 [] (c' := q_kc (t, r, 1, z, 530, (q_ur ext 529 (1, 0, 136)), rx, L) I E 15 [some (.ref 520), some (.int x1), some (.int x2), some (.ref 529), none] [.int x2] [] []) ok_X14_takeOver rfl q_cn ?_
        cases hf
        exact q_kri ok_X14_takeOver rfl rfl rfl (Nat.le_of_ble_eq_true rfl) (Nat.le_of_ble_eq_true rfl) ⟨rfl, q_hpe (q_pdw [492, 510, 511, 520, 522, 523, 526] rfl rfl) (q_pdw [] rfl rfl)⟩
set_option maxHeartbeats 4000000 in
theorem lp_X14_takeRopes_L4_520_529_O {g : q_G} {d mc ms : Nat} {h0 : q_H} {Q : (Option Value ⊕ String) → q_H → Prop} {k n : Nat} {t : Nat} {r : Nat} {z : Nat} {ext : Nat → q_Sh} {rx : Nat → Nat → Option Nat} {L : Nat → Nat → Int64} (hd : 5 ≤ d) (hk : k ≤ mc) (hn : n ≤ ms)  {v1 : Int32} : ∀ (fu : Nat) {I : Nat → Nat → Int32} {E : Nat → Nat → Option Nat} {v4 : Int32} {v5 : Int32} {r0 : Int32 × (Nat → Int32) × (Nat → Int32) × (Nat → Int32) × (Nat → Int32) × (Nat → Int32) × (Nat → Int32) × (Nat → Int32)} (hf : f_X14_takeRopes_L4 (I 499) (I 524) (I 525) (I 527) (I 529) v1 fu (I 492) (I 510) (I 511) (I 520) (I 522) (I 523) (I 526) v4 v5 = some r0) (hK0 : q_J g m_X14_takeRopes d mc ms h0 [] Q k n (q_kc (t, r, 1, z, 530, (q_ur ext 529 (1, 0, 136)), rx, L) I E 25 [none, none, none, none, some (.int r0.1), none] [] [(492, r0.2.1), (510, r0.2.2.1), (511, r0.2.2.2.1), (520, r0.2.2.2.2.1), (522, r0.2.2.2.2.2.1), (523, r0.2.2.2.2.2.2.1), (526, r0.2.2.2.2.2.2.2)] [])), q_J g m_X14_takeRopes d mc ms h0 [] Q k n (4, [some (.ref 520), some (.int v1), none, some (.ref 529), some (.int v4), some (.int v5)], [], q_hp (t, r, 1, z, 530, (q_ur ext 529 (1, 0, 136)), rx, L) I E) := by
  intro fu
  induction fu with
  | zero =>
    intro I E v4 v5 r0 hf hK0
    rw [f_X14_takeRopes_L4] at hf
    cases hf
  | succ fu ih =>
    intro I E v4 v5 r0 hf hK0
    rw [f_X14_takeRopes_L4] at hf
    change q_J g m_X14_takeRopes d mc ms h0 [] Q k n (q_kc (t, r, 1, z, 530, (q_ur ext 529 (1, 0, 136)), rx, L) I E 4 [some (.ref 520), some (.int v1), none, some (.ref 529), some (.int v4), some (.int v5)] [] [] [])
    obtain ⟨j1, hj1, hf⟩ := q_bd hf
    refine q_blf 5 [j1] (a := q_kc (t, r, 1, z, 530, (q_ur ext 529 (1, 0, 136)), rx, L) I E 25 [some (.ref 520), some (.int v1), none, some (.ref 529), some (.int v4), some (.int v5)] [] [] []) (b := q_kc (t, r, 1, z, 530, (q_ur ext 529 (1, 0, 136)), rx, L) I E 10 [some (.ref 520), some (.int v1), none, some (.ref 529), some (.int v4), some (.int v5)] [] [] []) (P := ((I 525) j1) ≤ v5) ok_X14_takeRopes rfl (q_cc hj1 q_cn) (fun h2 => ?_) (fun h2 => ?_)
    · have hf := q_ip h2 hf
      refine q_less (ls' := [none, none, none, none, some (.int v4), none]) (q_sb1 (q_sb1 (q_sb1 (q_sb1 (q_sb2 (q_sb1 q_sb0)))))) ?_
      cases hf
      exact q_Jpad (q_pdw [492, 510, 511, 520, 522, 523, 526] rfl rfl) (q_pdw [] rfl rfl) hK0
    · have hf := q_in h2 hf
      obtain ⟨j3, hj3, hf⟩ := q_bd hf
      refine q_blk 11 [j3] (c' := q_kc (t, r, 1, z, 530, (q_ur ext 529 (1, 0, 136)), rx, L) I E 21 [some (.ref 520), some (.int v1), none, some (.ref 529), some (.int v4), some (.int v5)] [.ref 529, .int v4, .int ((I 527) j3), .ref 520] [] []) ok_X14_takeRopes rfl (q_cc hj3 q_cn) ?_
      obtain ⟨r4, hr4, hf⟩ := q_bd hf
      refine q_kV (M2 := m_X14_takeOver) (As := [.int ((I 527) j3), .int v4, .ref 529]) (b := 520) (v2 := some (.int r4.1)) ok_X14_takeRopes ok_X14_takeOver cv_X14_takeOver (ct_X14_takeOver_520_529_O (d := 4) (Nat.le_refl _) hr4) rfl rfl (Or.inl rfl) rfl rfl rfl rfl (Nat.le_trans (Nat.le_of_ble_eq_true rfl) hd) hk hn (Nat.le_of_ble_eq_true rfl) (fun x hx => absurd hx List.not_mem_nil) (q_nmL0 _) (q_nmS0 _) rfl (pos' := 22) (st' := [.int r4.1]) (lI' := [(492, r4.2.1), (510, r4.2.2.1), (511, r4.2.2.2.1), (520, r4.2.2.2.2.1), (522, r4.2.2.2.2.2.1), (523, r4.2.2.2.2.2.2.1), (526, r4.2.2.2.2.2.2.2)]) (lE' := []) rfl rfl (q_mgw rfl rfl) rfl ?_
      refine q_blk 3 [] (c' := q_kc (t, r, 1, z, 530, (q_ur ext 529 (1, 0, 136)), rx, L) I E 4 [some (.ref 520), some (.int v1), none, some (.ref 529), some (.int r4.1), some (.int (v5 + 1))] [] [(492, r4.2.1), (510, r4.2.2.1), (511, r4.2.2.2.1), (520, r4.2.2.2.2.1), (522, r4.2.2.2.2.2.1), (523, r4.2.2.2.2.2.2.1), (526, r4.2.2.2.2.2.2.2)] []) ok_X14_takeRopes rfl q_cn ?_
      exact ih (I := q_ws I [(492, r4.2.1), (510, r4.2.2.1), (511, r4.2.2.2.1), (520, r4.2.2.2.2.1), (522, r4.2.2.2.2.2.1), (523, r4.2.2.2.2.2.2.1), (526, r4.2.2.2.2.2.2.2)]) (E := q_ws E []) hf (q_Jmrg (q_mgw rfl rfl) (q_mgw rfl rfl) hK0)
set_option maxHeartbeats 4000000 in
theorem ct_X14_takeRopes_520_529_O {g : q_G} {t : Nat} {r : Nat} {z : Nat} {ext : Nat → q_Sh} {rx : Nat → Nat → Option Nat} {L : Nat → Nat → Int64} {d : Nat} (hd : 5 ≤ d)  {I : Nat → Nat → Int32} {E : Nat → Nat → Option Nat} {x1 : Int32} {x2 : Int32} {r0 : Int32 × (Nat → Int32) × (Nat → Int32) × (Nat → Int32) × (Nat → Int32) × (Nat → Int32) × (Nat → Int32) × (Nat → Int32)} (hf : f_X14_takeRopes (I 492) (I 499) (I 510) (I 511) (I 520) (I 522) (I 523) (I 524) (I 525) (I 526) (I 527) (I 529) x1 x2 = some r0) : q_Ct g m_X14_takeRopes d 0 0 [] [.ref 520, .int x1, .int x2, .ref 529] (q_hp (t, r, 1, z, 530, (q_ur ext 529 (1, 0, 136)), rx, L) I E) (fun o h' => o = .inl (some (.int r0.1)) ∧ h' = q_hp (t, r, 1, z, 530, (q_ur ext 529 (1, 0, 136)), rx, L) (q_ws I [(492, r0.2.1), (510, r0.2.2.1), (511, r0.2.2.2.1), (520, r0.2.2.2.2.1), (522, r0.2.2.2.2.2.1), (523, r0.2.2.2.2.2.2.1), (526, r0.2.2.2.2.2.2.2)]) (q_ws E [])) := by
  rw [f_X14_takeRopes] at hf
  refine q_Ct_of ok_X14_takeRopes (Nat.le_of_ble_eq_true rfl) ?_ _ rfl rfl
  change q_J g m_X14_takeRopes d 0 0 _ [] _ 0 0 (q_kc (t, r, 1, z, 530, (q_ur ext 529 (1, 0, 136)), rx, L) I E 0 [some (.ref 520), some (.int x1), some (.int x2), some (.ref 529), none, none] [] [] [])
  refine q_blk 4 [] (c' := q_kc (t, r, 1, z, 530, (q_ur ext 529 (1, 0, 136)), rx, L) I E 4 [some (.ref 520), some (.int x1), some (.int x2), some (.ref 529), some (.int x2), some (.int (0 : Int32))] [] [] []) ok_X14_takeRopes rfl q_cn ?_
  refine q_less (ls' := [some (.ref 520), some (.int x1), none, some (.ref 529), some (.int x2), some (.int (0 : Int32))]) (q_sb2 (q_sb2 (q_sb1 (q_sb2 (q_sb2 (q_sb2 q_sb0)))))) ?_
  obtain ⟨r5, hr5, hf⟩ := q_bd hf
  refine lp_X14_takeRopes_L4_520_529_O (I := q_ws I []) (E := q_ws E []) hd (Nat.le_of_ble_eq_true rfl) (Nat.le_of_ble_eq_true rfl) 4096 hr5 ?_
  refine q_Jmrg (lI' := [(492, r5.2.1), (510, r5.2.2.1), (511, r5.2.2.2.1), (520, r5.2.2.2.2.1), (522, r5.2.2.2.2.2.1), (523, r5.2.2.2.2.2.2.1), (526, r5.2.2.2.2.2.2.2)]) (lE' := []) (q_mgw rfl rfl) (q_mgw rfl rfl) ?_
  refine q_blk 1 [] (c' := q_kc (t, r, 1, z, 530, (q_ur ext 529 (1, 0, 136)), rx, L) I E 26 [none, none, none, none, some (.int r5.1), none] [.int r5.1] [(492, r5.2.1), (510, r5.2.2.1), (511, r5.2.2.2.1), (520, r5.2.2.2.2.1), (522, r5.2.2.2.2.2.1), (523, r5.2.2.2.2.2.2.1), (526, r5.2.2.2.2.2.2.2)] []) ok_X14_takeRopes rfl q_cn ?_
  cases hf
  exact q_kri ok_X14_takeRopes rfl rfl rfl (Nat.le_of_ble_eq_true rfl) (Nat.le_of_ble_eq_true rfl) ⟨rfl, q_hpe (q_pdw [492, 510, 511, 520, 522, 523, 526] rfl rfl) (q_pdw [] rfl rfl)⟩
set_option maxHeartbeats 4000000 in
theorem lp_X14_copyAll_L16_520 {g : q_G} {d mc ms : Nat} {h0 : q_H} {Q : (Option Value ⊕ String) → q_H → Prop} {k n : Nat} {t : Nat} {r : Nat} {m : Nat} {z : Nat} {ext : Nat → q_Sh} {rx : Nat → Nat → Option Nat} {L : Nat → Nat → Int64} (hd : 6 ≤ d) (hk : k ≤ mc) (hn : n ≤ ms)  {v2 : Int32} : ∀ (fu : Nat) {I : Nat → Nat → Int32} {E : Nat → Nat → Option Nat} {v3 : Int32} {r0 : (Nat → Int32)} (hf : f_X14_copyAll_L16 (I 529) fu (I 522) v3 = some r0) (hK0 : q_J g m_X14_copyAll d mc ms h0 [] Q k n (q_kc (t, r, m, z, 530, (q_ur ext 529 (1, 0, 136)), rx, L) I E 31 [some (.ref 520), some (.ref 529), some (.int v2), none, none, none] [] [(522, r0)] [])), q_J g m_X14_copyAll d mc ms h0 [] Q k n (16, [some (.ref 520), some (.ref 529), some (.int v2), some (.int v3), none, none], [], q_hp (t, r, m, z, 530, (q_ur ext 529 (1, 0, 136)), rx, L) I E) := by
  intro fu
  induction fu with
  | zero =>
    intro I E v3 r0 hf hK0
    rw [f_X14_copyAll_L16] at hf
    cases hf
  | succ fu ih =>
    intro I E v3 r0 hf hK0
    rw [f_X14_copyAll_L16] at hf
    change q_J g m_X14_copyAll d mc ms h0 [] Q k n (q_kc (t, r, m, z, 530, (q_ur ext 529 (1, 0, 136)), rx, L) I E 16 [some (.ref 520), some (.ref 529), some (.int v2), some (.int v3), none, none] [] [] [])
    refine q_blf 2 [] (a := q_kc (t, r, m, z, 530, (q_ur ext 529 (1, 0, 136)), rx, L) I E 31 [some (.ref 520), some (.ref 529), some (.int v2), some (.int v3), none, none] [] [] []) (b := q_kc (t, r, m, z, 530, (q_ur ext 529 (1, 0, 136)), rx, L) I E 19 [some (.ref 520), some (.ref 529), some (.int v2), some (.int v3), none, none] [] [] []) (P := (136 : Int32) ≤ v3) ok_X14_copyAll rfl q_cn (fun h1 => ?_) (fun h1 => ?_)
    · have hf := q_ip h1 hf
      refine q_less (ls' := [some (.ref 520), some (.ref 529), some (.int v2), none, none, none]) (q_sb2 (q_sb2 (q_sb2 (q_sb1 (q_sb1 (q_sb1 q_sb0)))))) ?_
      cases hf
      exact q_Jpad (q_pdw [522] rfl rfl) (q_pdw [] rfl rfl) hK0
    · have hf := q_in h1 hf
      obtain ⟨j2, hj2, hf⟩ := q_bd hf
      refine q_blf 4 [j2] (a := q_kc (t, r, m, z, 530, (q_ur ext 529 (1, 0, 136)), rx, L) I E 29 [some (.ref 520), some (.ref 529), some (.int v2), some (.int v3), none, none] [] [] []) (b := q_kc (t, r, m, z, 530, (q_ur ext 529 (1, 0, 136)), rx, L) I E 24 [some (.ref 520), some (.ref 529), some (.int v2), some (.int v3), none, none] [] [] []) (P := ¬ ((I 529) j2) = (1 : Int32)) ok_X14_copyAll rfl (q_cc hj2 q_cn) (fun h3 => ?_) (fun h3 => ?_)
      · have hf := q_ip h3 hf
        refine q_blk 2 [] (c' := q_kc (t, r, m, z, 530, (q_ur ext 529 (1, 0, 136)), rx, L) I E 16 [some (.ref 520), some (.ref 529), some (.int v2), some (.int (v3 + 1)), none, none] [] [] []) ok_X14_copyAll rfl q_cn ?_
        exact ih (I := q_ws I []) (E := q_ws E []) hf (q_Jmrg (q_mgw rfl rfl) (q_mgw rfl rfl) hK0)
      · have hf := q_in h3 hf
        obtain ⟨j4, hj4, hf⟩ := q_bd hf
        refine q_blk 7 [j4] (c' := q_kc (t, r, m, z, 530, (q_ur ext 529 (1, 0, 136)), rx, L) I E 16 [some (.ref 520), some (.ref 529), some (.int v2), some (.int (v3 + 1)), none, none] [] [(522, (q_up (I 522) j4 (0 : Int32)))] []) ok_X14_copyAll rfl (q_cc hj4 q_cn) ?_
        exact ih (I := q_ws I [(522, (q_up (I 522) j4 (0 : Int32)))]) (E := q_ws E []) hf (q_Jmrg (q_mgw rfl rfl) (q_mgw rfl rfl) hK0)
set_option maxHeartbeats 4000000 in
theorem lp_X14_copyAll_L88_520 {g : q_G} {d mc ms : Nat} {h0 : q_H} {Q : (Option Value ⊕ String) → q_H → Prop} {k n : Nat} {t : Nat} {r : Nat} {z : Nat} {ext : Nat → q_Sh} {rx : Nat → Nat → Option Nat} {L : Nat → Nat → Int64} (hd : 6 ≤ d) (hk : k ≤ mc) (hn : n ≤ ms)  {v2 : Int32} : ∀ (fu : Nat) {I : Nat → Nat → Int32} {E : Nat → Nat → Option Nat} {v3 : Int32} {v4 : Int32} {r0 : (Nat → Int32) × (Nat → Int32) × (Nat → Int32) × (Nat → Int32) × (Nat → Int32) × (Nat → Int32) × (Nat → Int32)} (hf : f_X14_copyAll_L88 (I 499) (I 524) (I 525) (I 527) (I 529) fu (I 492) (I 510) (I 511) (I 520) (I 522) (I 523) (I 526) v3 v4 = some r0) (hK0 : q_J g m_X14_copyAll d mc ms h0 [] Q k n (q_kc (t, r, 1, z, 530, (q_ur ext 529 (1, 0, 136)), rx, L) I E 105 [some (.ref 520), none, some (.int v2), none, none, none] [] [(492, r0.1), (510, r0.2.1), (511, r0.2.2.1), (520, r0.2.2.2.1), (522, r0.2.2.2.2.1), (523, r0.2.2.2.2.2.1), (526, r0.2.2.2.2.2.2)] [])), q_J g m_X14_copyAll d mc ms h0 [] Q k n (88, [some (.ref 520), some (.ref 529), some (.int v2), some (.int v3), some (.int v4), none], [], q_hp (t, r, 1, z, 530, (q_ur ext 529 (1, 0, 136)), rx, L) I E) := by
  intro fu
  induction fu with
  | zero =>
    intro I E v3 v4 r0 hf hK0
    rw [f_X14_copyAll_L88] at hf
    cases hf
  | succ fu ih =>
    intro I E v3 v4 r0 hf hK0
    rw [f_X14_copyAll_L88] at hf
    change q_J g m_X14_copyAll d mc ms h0 [] Q k n (q_kc (t, r, 1, z, 530, (q_ur ext 529 (1, 0, 136)), rx, L) I E 88 [some (.ref 520), some (.ref 529), some (.int v2), some (.int v3), some (.int v4), none] [] [] [])
    refine q_blf 4 [] (a := q_kc (t, r, 1, z, 530, (q_ur ext 529 (1, 0, 136)), rx, L) I E 105 [some (.ref 520), some (.ref 529), some (.int v2), some (.int v3), some (.int v4), none] [] [] []) (b := q_kc (t, r, 1, z, 530, (q_ur ext 529 (1, 0, 136)), rx, L) I E 93 [some (.ref 520), some (.ref 529), some (.int v2), some (.int v3), some (.int v4), none] [] [] []) (P := ((I 492) 16) ≤ v4) ok_X14_copyAll rfl q_cn (fun h5 => ?_) (fun h5 => ?_)
    · have hf := q_ip h5 hf
      refine q_less (ls' := [some (.ref 520), none, some (.int v2), none, none, none]) (q_sb2 (q_sb1 (q_sb2 (q_sb1 (q_sb1 (q_sb1 q_sb0)))))) ?_
      cases hf
      exact q_Jpad (q_pdw [492, 510, 511, 520, 522, 523, 526] rfl rfl) (q_pdw [] rfl rfl) hK0
    · have hf := q_in h5 hf
      obtain ⟨j6, hj6, hf⟩ := q_bd hf
      refine q_blk 8 [j6] (c' := q_kc (t, r, 1, z, 530, (q_ur ext 529 (1, 0, 136)), rx, L) I E 101 [some (.ref 520), some (.ref 529), some (.int v2), some (.int v3), some (.int v4), none] [.ref 529, .int v3, .int ((I 510) j6), .ref 520] [] []) ok_X14_copyAll rfl (q_cc hj6 q_cn) ?_
      obtain ⟨r7, hr7, hf⟩ := q_bd hf
      refine q_kV (M2 := m_X14_takeRopes) (As := [.int ((I 510) j6), .int v3, .ref 529]) (b := 520) (v2 := some (.int r7.1)) ok_X14_copyAll ok_X14_takeRopes cv_X14_takeRopes (ct_X14_takeRopes_520_529_O (d := 5) (Nat.le_refl _) hr7) rfl rfl (Or.inl rfl) rfl rfl rfl rfl (Nat.le_trans (Nat.le_of_ble_eq_true rfl) hd) hk hn (Nat.le_of_ble_eq_true rfl) (fun x hx => absurd hx List.not_mem_nil) (q_nmL0 _) (q_nmS0 _) rfl (pos' := 102) (st' := [.int r7.1]) (lI' := [(492, r7.2.1), (510, r7.2.2.1), (511, r7.2.2.2.1), (520, r7.2.2.2.2.1), (522, r7.2.2.2.2.2.1), (523, r7.2.2.2.2.2.2.1), (526, r7.2.2.2.2.2.2.2)]) (lE' := []) rfl rfl (q_mgw rfl rfl) rfl ?_
      refine q_blk 3 [] (c' := q_kc (t, r, 1, z, 530, (q_ur ext 529 (1, 0, 136)), rx, L) I E 88 [some (.ref 520), some (.ref 529), some (.int v2), some (.int r7.1), some (.int (v4 + 1)), none] [] [(492, r7.2.1), (510, r7.2.2.1), (511, r7.2.2.2.1), (520, r7.2.2.2.2.1), (522, r7.2.2.2.2.2.1), (523, r7.2.2.2.2.2.2.1), (526, r7.2.2.2.2.2.2.2)] []) ok_X14_copyAll rfl q_cn ?_
      exact ih (I := q_ws I [(492, r7.2.1), (510, r7.2.2.1), (511, r7.2.2.2.1), (520, r7.2.2.2.2.1), (522, r7.2.2.2.2.2.1), (523, r7.2.2.2.2.2.2.1), (526, r7.2.2.2.2.2.2.2)]) (E := q_ws E []) hf (q_Jmrg (q_mgw rfl rfl) (q_mgw rfl rfl) hK0)
set_option maxHeartbeats 4000000 in
theorem lp_X14_copyAll_L35_520 {g : q_G} {d mc ms : Nat} {h0 : q_H} {Q : (Option Value ⊕ String) → q_H → Prop} {k n : Nat} {t : Nat} {r : Nat} {z : Nat} {ext : Nat → q_Sh} {rx : Nat → Nat → Option Nat} {L : Nat → Nat → Int64} (hd : 6 ≤ d) (hk : k ≤ mc) (hn : n ≤ ms)  {v2 : Int32} : ∀ (fu : Nat) {I : Nat → Nat → Int32} {E : Nat → Nat → Option Nat} {v3 : Int32} {v4 : Int32} {r0 : Int32 × (Nat → Int32) × (Nat → Int32) × (Nat → Int32) × (Nat → Int32) × (Nat → Int32) × (Nat → Int32) × (Nat → Int32)} (hf : f_X14_copyAll_L35 (I 499) (I 521) (I 524) (I 529) fu (I 492) (I 510) (I 511) (I 520) (I 522) (I 523) (I 526) v3 v4 = some r0) (hK0 : q_J g m_X14_copyAll d mc ms h0 [] Q k n (q_kc (t, r, 1, z, 530, (q_ur ext 529 (1, 0, 136)), rx, L) I E 52 [some (.ref 520), some (.ref 529), some (.int v2), some (.int r0.1), none, none] [] [(492, r0.2.1), (510, r0.2.2.1), (511, r0.2.2.2.1), (520, r0.2.2.2.2.1), (522, r0.2.2.2.2.2.1), (523, r0.2.2.2.2.2.2.1), (526, r0.2.2.2.2.2.2.2)] [])), q_J g m_X14_copyAll d mc ms h0 [] Q k n (35, [some (.ref 520), some (.ref 529), some (.int v2), some (.int v3), some (.int v4), none], [], q_hp (t, r, 1, z, 530, (q_ur ext 529 (1, 0, 136)), rx, L) I E) := by
  intro fu
  induction fu with
  | zero =>
    intro I E v3 v4 r0 hf hK0
    rw [f_X14_copyAll_L35] at hf
    cases hf
  | succ fu ih =>
    intro I E v3 v4 r0 hf hK0
    rw [f_X14_copyAll_L35] at hf
    change q_J g m_X14_copyAll d mc ms h0 [] Q k n (q_kc (t, r, 1, z, 530, (q_ur ext 529 (1, 0, 136)), rx, L) I E 35 [some (.ref 520), some (.ref 529), some (.int v2), some (.int v3), some (.int v4), none] [] [] [])
    refine q_blf 5 [] (a := q_kc (t, r, 1, z, 530, (q_ur ext 529 (1, 0, 136)), rx, L) I E 52 [some (.ref 520), some (.ref 529), some (.int v2), some (.int v3), some (.int v4), none] [] [] []) (b := q_kc (t, r, 1, z, 530, (q_ur ext 529 (1, 0, 136)), rx, L) I E 41 [some (.ref 520), some (.ref 529), some (.int v2), some (.int v3), some (.int v4), none] [] [] []) (P := ((I 499) 0) ≤ v4) ok_X14_copyAll rfl q_cn (fun h8 => ?_) (fun h8 => ?_)
    · have hf := q_ip h8 hf
      refine q_less (ls' := [some (.ref 520), some (.ref 529), some (.int v2), some (.int v3), none, none]) (q_sb2 (q_sb2 (q_sb2 (q_sb2 (q_sb1 (q_sb1 q_sb0)))))) ?_
      cases hf
      exact q_Jpad (q_pdw [492, 510, 511, 520, 522, 523, 526] rfl rfl) (q_pdw [] rfl rfl) hK0
    · have hf := q_in h8 hf
      obtain ⟨j9, hj9, hf⟩ := q_bd hf
      refine q_blk 7 [j9] (c' := q_kc (t, r, 1, z, 530, (q_ur ext 529 (1, 0, 136)), rx, L) I E 48 [some (.ref 520), some (.ref 529), some (.int v2), some (.int v3), some (.int v4), none] [.ref 529, .int v3, .int ((I 521) j9), .ref 520] [] []) ok_X14_copyAll rfl (q_cc hj9 q_cn) ?_
      obtain ⟨r10, hr10, hf⟩ := q_bd hf
      refine q_kV (M2 := m_X14_takeOver) (As := [.int ((I 521) j9), .int v3, .ref 529]) (b := 520) (v2 := some (.int r10.1)) ok_X14_copyAll ok_X14_takeOver cv_X14_takeOver (ct_X14_takeOver_520_529_O (d := 4) (Nat.le_refl _) hr10) rfl rfl (Or.inl rfl) rfl rfl rfl rfl (Nat.le_trans (Nat.le_of_ble_eq_true rfl) hd) hk hn (Nat.le_of_ble_eq_true rfl) (fun x hx => absurd hx List.not_mem_nil) (q_nmL0 _) (q_nmS0 _) rfl (pos' := 49) (st' := [.int r10.1]) (lI' := [(492, r10.2.1), (510, r10.2.2.1), (511, r10.2.2.2.1), (520, r10.2.2.2.2.1), (522, r10.2.2.2.2.2.1), (523, r10.2.2.2.2.2.2.1), (526, r10.2.2.2.2.2.2.2)]) (lE' := []) rfl rfl (q_mgw rfl rfl) rfl ?_
      refine q_blk 3 [] (c' := q_kc (t, r, 1, z, 530, (q_ur ext 529 (1, 0, 136)), rx, L) I E 35 [some (.ref 520), some (.ref 529), some (.int v2), some (.int r10.1), some (.int (v4 + 1)), none] [] [(492, r10.2.1), (510, r10.2.2.1), (511, r10.2.2.2.1), (520, r10.2.2.2.2.1), (522, r10.2.2.2.2.2.1), (523, r10.2.2.2.2.2.2.1), (526, r10.2.2.2.2.2.2.2)] []) ok_X14_copyAll rfl q_cn ?_
      exact ih (I := q_ws I [(492, r10.2.1), (510, r10.2.2.1), (511, r10.2.2.2.1), (520, r10.2.2.2.2.1), (522, r10.2.2.2.2.2.1), (523, r10.2.2.2.2.2.2.1), (526, r10.2.2.2.2.2.2.2)]) (E := q_ws E []) hf (q_Jmrg (q_mgw rfl rfl) (q_mgw rfl rfl) hK0)
set_option maxHeartbeats 4000000 in
theorem lp_X14_copyAll_L62_520 {g : q_G} {d mc ms : Nat} {h0 : q_H} {Q : (Option Value ⊕ String) → q_H → Prop} {k n : Nat} {t : Nat} {r : Nat} {z : Nat} {ext : Nat → q_Sh} {rx : Nat → Nat → Option Nat} {L : Nat → Nat → Int64} (hd : 6 ≤ d) (hk : k ≤ mc) (hn : n ≤ ms)  {v2 : Int32} {v4 : Int32} : ∀ (fu : Nat) {I : Nat → Nat → Int32} {E : Nat → Nat → Option Nat} {v3 : Int32} {v5 : Int32} {r0 : Int32 × (Nat → Int32) × (Nat → Int32) × (Nat → Int32) × (Nat → Int32) × (Nat → Int32) × (Nat → Int32) × (Nat → Int32)} (hf : f_X14_copyAll_L62 (I 499) (I 524) (I 525) (I 527) (I 529) v4 fu (I 492) (I 510) (I 511) (I 520) (I 522) (I 523) (I 526) v3 v5 = some r0) (hK0 : q_J g m_X14_copyAll d mc ms h0 [] Q k n (q_kc (t, r, 1, z, 530, (q_ur ext 529 (1, 0, 136)), rx, L) I E 84 [some (.ref 520), some (.ref 529), some (.int v2), some (.int r0.1), some (.int v4), none] [] [(492, r0.2.1), (510, r0.2.2.1), (511, r0.2.2.2.1), (520, r0.2.2.2.2.1), (522, r0.2.2.2.2.2.1), (523, r0.2.2.2.2.2.2.1), (526, r0.2.2.2.2.2.2.2)] [])), q_J g m_X14_copyAll d mc ms h0 [] Q k n (62, [some (.ref 520), some (.ref 529), some (.int v2), some (.int v3), some (.int v4), some (.int v5)], [], q_hp (t, r, 1, z, 530, (q_ur ext 529 (1, 0, 136)), rx, L) I E) := by
  intro fu
  induction fu with
  | zero =>
    intro I E v3 v5 r0 hf hK0
    rw [f_X14_copyAll_L62] at hf
    cases hf
  | succ fu ih =>
    intro I E v3 v5 r0 hf hK0
    rw [f_X14_copyAll_L62] at hf
    change q_J g m_X14_copyAll d mc ms h0 [] Q k n (q_kc (t, r, 1, z, 530, (q_ur ext 529 (1, 0, 136)), rx, L) I E 62 [some (.ref 520), some (.ref 529), some (.int v2), some (.int v3), some (.int v4), some (.int v5)] [] [] [])
    refine q_blf 2 [] (a := q_kc (t, r, 1, z, 530, (q_ur ext 529 (1, 0, 136)), rx, L) I E 84 [some (.ref 520), some (.ref 529), some (.int v2), some (.int v3), some (.int v4), some (.int v5)] [] [] []) (b := q_kc (t, r, 1, z, 530, (q_ur ext 529 (1, 0, 136)), rx, L) I E 65 [some (.ref 520), some (.ref 529), some (.int v2), some (.int v3), some (.int v4), some (.int v5)] [] [] []) (P := (136 : Int32) ≤ v5) ok_X14_copyAll rfl q_cn (fun h11 => ?_) (fun h11 => ?_)
    · have hf := q_ip h11 hf
      refine q_less (ls' := [some (.ref 520), some (.ref 529), some (.int v2), some (.int v3), some (.int v4), none]) (q_sb2 (q_sb2 (q_sb2 (q_sb2 (q_sb2 (q_sb1 q_sb0)))))) ?_
      cases hf
      exact q_Jpad (q_pdw [492, 510, 511, 520, 522, 523, 526] rfl rfl) (q_pdw [] rfl rfl) hK0
    · have hf := q_in h11 hf
      obtain ⟨j12, hj12, hf⟩ := q_bd hf
      refine q_blf 4 [j12] (a := q_kc (t, r, 1, z, 530, (q_ur ext 529 (1, 0, 136)), rx, L) I E 82 [some (.ref 520), some (.ref 529), some (.int v2), some (.int v3), some (.int v4), some (.int v5)] [] [] []) (b := q_kc (t, r, 1, z, 530, (q_ur ext 529 (1, 0, 136)), rx, L) I E 70 [some (.ref 520), some (.ref 529), some (.int v2), some (.int v3), some (.int v4), some (.int v5)] [] [] []) (P := ¬ ((I 529) j12) = (2 : Int32)) ok_X14_copyAll rfl (q_cc hj12 q_cn) (fun h13 => ?_) (fun h13 => ?_)
      · have hf := q_ip h13 hf
        refine q_blk 2 [] (c' := q_kc (t, r, 1, z, 530, (q_ur ext 529 (1, 0, 136)), rx, L) I E 62 [some (.ref 520), some (.ref 529), some (.int v2), some (.int v3), some (.int v4), some (.int (v5 + 1))] [] [] []) ok_X14_copyAll rfl q_cn ?_
        exact ih (I := q_ws I []) (E := q_ws E []) hf (q_Jmrg (q_mgw rfl rfl) (q_mgw rfl rfl) hK0)
      · have hf := q_in h13 hf
        obtain ⟨j14, hj14, hf⟩ := q_bd hf
        refine q_blf 5 [j14] (a := q_kc (t, r, 1, z, 530, (q_ur ext 529 (1, 0, 136)), rx, L) I E 82 [some (.ref 520), some (.ref 529), some (.int v2), some (.int v3), some (.int v4), some (.int v5)] [] [] []) (b := q_kc (t, r, 1, z, 530, (q_ur ext 529 (1, 0, 136)), rx, L) I E 76 [some (.ref 520), some (.ref 529), some (.int v2), some (.int v3), some (.int v4), some (.int v5)] [] [] []) (P := ¬ ((I 523) j14) = v4) ok_X14_copyAll rfl (q_cc hj14 q_cn) (fun h15 => ?_) (fun h15 => ?_)
        · have hf := q_ip h15 hf
          refine q_blk 2 [] (c' := q_kc (t, r, 1, z, 530, (q_ur ext 529 (1, 0, 136)), rx, L) I E 62 [some (.ref 520), some (.ref 529), some (.int v2), some (.int v3), some (.int v4), some (.int (v5 + 1))] [] [] []) ok_X14_copyAll rfl q_cn ?_
          exact ih (I := q_ws I []) (E := q_ws E []) hf (q_Jmrg (q_mgw rfl rfl) (q_mgw rfl rfl) hK0)
        · have hf := q_in h15 hf
          refine q_blk 4 [] (c' := q_kc (t, r, 1, z, 530, (q_ur ext 529 (1, 0, 136)), rx, L) I E 80 [some (.ref 520), some (.ref 529), some (.int v2), some (.int v3), some (.int v4), some (.int v5)] [.ref 529, .int v3, .int v5, .ref 520] [] []) ok_X14_copyAll rfl q_cn ?_
          obtain ⟨r16, hr16, hf⟩ := q_bd hf
          refine q_kV (M2 := m_X14_takeRopes) (As := [.int v5, .int v3, .ref 529]) (b := 520) (v2 := some (.int r16.1)) ok_X14_copyAll ok_X14_takeRopes cv_X14_takeRopes (ct_X14_takeRopes_520_529_O (d := 5) (Nat.le_refl _) hr16) rfl rfl (Or.inl rfl) rfl rfl rfl rfl (Nat.le_trans (Nat.le_of_ble_eq_true rfl) hd) hk hn (Nat.le_of_ble_eq_true rfl) (fun x hx => absurd hx List.not_mem_nil) (q_nmL0 _) (q_nmS0 _) rfl (pos' := 81) (st' := [.int r16.1]) (lI' := [(492, r16.2.1), (510, r16.2.2.1), (511, r16.2.2.2.1), (520, r16.2.2.2.2.1), (522, r16.2.2.2.2.2.1), (523, r16.2.2.2.2.2.2.1), (526, r16.2.2.2.2.2.2.2)]) (lE' := []) rfl rfl (q_mgw rfl rfl) rfl ?_
          refine q_blk 3 [] (c' := q_kc (t, r, 1, z, 530, (q_ur ext 529 (1, 0, 136)), rx, L) I E 62 [some (.ref 520), some (.ref 529), some (.int v2), some (.int r16.1), some (.int v4), some (.int (v5 + 1))] [] [(492, r16.2.1), (510, r16.2.2.1), (511, r16.2.2.2.1), (520, r16.2.2.2.2.1), (522, r16.2.2.2.2.2.1), (523, r16.2.2.2.2.2.2.1), (526, r16.2.2.2.2.2.2.2)] []) ok_X14_copyAll rfl q_cn ?_
          exact ih (I := q_ws I [(492, r16.2.1), (510, r16.2.2.1), (511, r16.2.2.2.1), (520, r16.2.2.2.2.1), (522, r16.2.2.2.2.2.1), (523, r16.2.2.2.2.2.2.1), (526, r16.2.2.2.2.2.2.2)]) (E := q_ws E []) hf (q_Jmrg (q_mgw rfl rfl) (q_mgw rfl rfl) hK0)
set_option maxHeartbeats 4000000 in
theorem lp_X14_copyAll_L54_520 {g : q_G} {d mc ms : Nat} {h0 : q_H} {Q : (Option Value ⊕ String) → q_H → Prop} {k n : Nat} {t : Nat} {r : Nat} {z : Nat} {ext : Nat → q_Sh} {rx : Nat → Nat → Option Nat} {L : Nat → Nat → Int64} (hd : 6 ≤ d) (hk : k ≤ mc) (hn : n ≤ ms)  {v2 : Int32} : ∀ (fu : Nat) {I : Nat → Nat → Int32} {E : Nat → Nat → Option Nat} {v3 : Int32} {v4 : Int32} {r0 : Int32 × (Nat → Int32) × (Nat → Int32) × (Nat → Int32) × (Nat → Int32) × (Nat → Int32) × (Nat → Int32) × (Nat → Int32)} (hf : f_X14_copyAll_L54 (I 499) (I 524) (I 525) (I 527) (I 529) fu (I 492) (I 510) (I 511) (I 520) (I 522) (I 523) (I 526) v3 v4 = some r0) (hK0 : q_J g m_X14_copyAll d mc ms h0 [] Q k n (q_kc (t, r, 1, z, 530, (q_ur ext 529 (1, 0, 136)), rx, L) I E 86 [some (.ref 520), some (.ref 529), some (.int v2), some (.int r0.1), none, none] [] [(492, r0.2.1), (510, r0.2.2.1), (511, r0.2.2.2.1), (520, r0.2.2.2.2.1), (522, r0.2.2.2.2.2.1), (523, r0.2.2.2.2.2.2.1), (526, r0.2.2.2.2.2.2.2)] [])), q_J g m_X14_copyAll d mc ms h0 [] Q k n (54, [some (.ref 520), some (.ref 529), some (.int v2), some (.int v3), some (.int v4), none], [], q_hp (t, r, 1, z, 530, (q_ur ext 529 (1, 0, 136)), rx, L) I E) := by
  intro fu
  induction fu with
  | zero =>
    intro I E v3 v4 r0 hf hK0
    rw [f_X14_copyAll_L54] at hf
    cases hf
  | succ fu ih =>
    intro I E v3 v4 r0 hf hK0
    rw [f_X14_copyAll_L54] at hf
    change q_J g m_X14_copyAll d mc ms h0 [] Q k n (q_kc (t, r, 1, z, 530, (q_ur ext 529 (1, 0, 136)), rx, L) I E 54 [some (.ref 520), some (.ref 529), some (.int v2), some (.int v3), some (.int v4), none] [] [] [])
    refine q_blf 5 [] (a := q_kc (t, r, 1, z, 530, (q_ur ext 529 (1, 0, 136)), rx, L) I E 86 [some (.ref 520), some (.ref 529), some (.int v2), some (.int v3), some (.int v4), none] [] [] []) (b := q_kc (t, r, 1, z, 530, (q_ur ext 529 (1, 0, 136)), rx, L) I E 60 [some (.ref 520), some (.ref 529), some (.int v2), some (.int v3), some (.int v4), none] [] [] []) (P := ((I 499) 2) ≤ v4) ok_X14_copyAll rfl q_cn (fun h17 => ?_) (fun h17 => ?_)
    · have hf := q_ip h17 hf
      refine q_less (ls' := [some (.ref 520), some (.ref 529), some (.int v2), some (.int v3), none, none]) (q_sb2 (q_sb2 (q_sb2 (q_sb2 (q_sb1 (q_sb1 q_sb0)))))) ?_
      cases hf
      exact q_Jpad (q_pdw [492, 510, 511, 520, 522, 523, 526] rfl rfl) (q_pdw [] rfl rfl) hK0
    · have hf := q_in h17 hf
      refine q_blk 2 [] (c' := q_kc (t, r, 1, z, 530, (q_ur ext 529 (1, 0, 136)), rx, L) I E 62 [some (.ref 520), some (.ref 529), some (.int v2), some (.int v3), some (.int v4), some (.int (0 : Int32))] [] [] []) ok_X14_copyAll rfl q_cn ?_
      obtain ⟨r18, hr18, hf⟩ := q_bd hf
      refine lp_X14_copyAll_L62_520 (I := q_ws I []) (E := q_ws E []) hd hk hn 4096 hr18 ?_
      refine q_Jmrg (lI' := [(492, r18.2.1), (510, r18.2.2.1), (511, r18.2.2.2.1), (520, r18.2.2.2.2.1), (522, r18.2.2.2.2.2.1), (523, r18.2.2.2.2.2.2.1), (526, r18.2.2.2.2.2.2.2)]) (lE' := []) (q_mgw rfl rfl) (q_mgw rfl rfl) ?_
      refine q_blk 2 [] (c' := q_kc (t, r, 1, z, 530, (q_ur ext 529 (1, 0, 136)), rx, L) I E 54 [some (.ref 520), some (.ref 529), some (.int v2), some (.int r18.1), some (.int (v4 + 1)), none] [] [(492, r18.2.1), (510, r18.2.2.1), (511, r18.2.2.2.1), (520, r18.2.2.2.2.1), (522, r18.2.2.2.2.2.1), (523, r18.2.2.2.2.2.2.1), (526, r18.2.2.2.2.2.2.2)] []) ok_X14_copyAll rfl q_cn ?_
      exact ih (I := q_ws I [(492, r18.2.1), (510, r18.2.2.1), (511, r18.2.2.2.1), (520, r18.2.2.2.2.1), (522, r18.2.2.2.2.2.1), (523, r18.2.2.2.2.2.2.1), (526, r18.2.2.2.2.2.2.2)]) (E := q_ws E []) hf (q_Jmrg (q_mgw rfl rfl) (q_mgw rfl rfl) hK0)
set_option maxHeartbeats 4000000 in
theorem ct_X14_copyAll_520 {g : q_G} {t : Nat} {r : Nat} {ext : Nat → q_Sh} {rx : Nat → Nat → Option Nat} {L : Nat → Nat → Int64} {d : Nat} (hd : 6 ≤ d)  {I : Nat → Nat → Int32} {E : Nat → Nat → Option Nat} {r0 : Int32 × (Nat → Int32) × (Nat → Int32) × (Nat → Int32) × (Nat → Int32) × (Nat → Int32) × (Nat → Int32) × (Nat → Int32)} (hf : f_X14_copyAll (I 492) (I 499) (I 510) (I 511) (I 520) (I 521) (I 522) (I 523) (I 524) (I 525) (I 526) (I 527) = some r0) : q_Ct g m_X14_copyAll d 1 136 [] [.ref 520] (q_hp (t, r, 1, 499, 529, ext, rx, L) I E) (fun o h' => o = .inl (some (.int r0.1)) ∧ h' = q_hp (t, r, 1, 499, 529, ext, rx, L) (q_ws I [(492, r0.2.1), (510, r0.2.2.1), (511, r0.2.2.2.1), (520, r0.2.2.2.2.1), (522, r0.2.2.2.2.2.1), (523, r0.2.2.2.2.2.2.1), (526, r0.2.2.2.2.2.2.2)]) (q_ws E [])) := by
  rw [f_X14_copyAll] at hf
  refine q_Ct_of ok_X14_copyAll (Nat.le_of_ble_eq_true rfl) ?_ _ rfl rfl
  change q_J g m_X14_copyAll d 1 136 _ [] _ 0 0 (q_kc (t, r, 1, 499, 529, ext, rx, L) I E 0 [some (.ref 520), none, none, none, none, none] [] [] [])
  refine q_clo_J (fun hclo0 => ?_)
  refine q_blk 1 [] (c' := q_kc (t, r, 1, 499, 529, ext, rx, L) I E 1 [some (.ref 520), none, none, none, none, none] [.int (136 : Int32)] [] []) ok_X14_copyAll rfl q_cn ?_
  refine q_knewI (Lw := 136) (pos' := 2) (lI' := [(529, (fun _ => 0))]) (lE' := [(529, (fun _ => none))]) ok_X14_copyAll rfl rfl rfl (Nat.le_of_ble_eq_true rfl) (Nat.le_of_ble_eq_true rfl) rfl rfl rfl ?_
  refine q_blk 5 [] (c' := q_kc (t, r, 1, 499, 530, (q_ur ext 529 (1, 0, 136)), (q_ur rx 529 (fun _ => none)), (q_ur L 529 (fun _ => 0))) I E 7 [some (.ref 520), some (.ref 529), none, none, none, none] [.ref 529, .ref 522, .ref 520] [(529, (fun _ => 0))] [(529, (fun _ => none))]) ok_X14_copyAll rfl q_cn ?_
  obtain ⟨r19, hr19, hf⟩ := q_bd hf
  refine q_kV (M2 := m_X14_copy) (As := [.ref 522, .ref 529]) (b := 520) (v2 := none) ok_X14_copyAll ok_X14_copy cv_X14_copy (ct_X14_copy_520_522_529_O (d := 2) (Nat.le_refl _) hr19) rfl rfl (Or.inl rfl) rfl rfl rfl rfl (Nat.le_trans (Nat.le_of_ble_eq_true rfl) hd) (Nat.le_of_ble_eq_true rfl) (Nat.le_of_ble_eq_true rfl) (Nat.le_of_ble_eq_true rfl) (fun x hx => absurd hx List.not_mem_nil) (q_nmL0 _) (q_nmS0 _) rfl (pos' := 8) (st' := []) (lI' := [(529, r19)]) (lE' := [(529, (fun _ => none))]) rfl rfl (q_mgw rfl rfl) rfl ?_
  refine q_blk 1 [] (c' := q_kc (t, r, 1, 499, 530, (q_ur ext 529 (1, 0, 136)), (q_ur rx 529 (fun _ => none)), (q_ur L 529 (fun _ => 0))) I E 9 [some (.ref 520), some (.ref 529), none, none, none, none] [.ref 520] [(529, r19)] [(529, (fun _ => none))]) ok_X14_copyAll rfl q_cn ?_
  obtain ⟨r20, hr20, hf⟩ := q_bd hf
  refine q_kV (M2 := m_X14_forget) (As := []) (b := 520) (v2 := none) ok_X14_copyAll ok_X14_forget cv_X14_forget (ct_X14_forget_520 (d := 1) (Nat.le_refl _) hr20) rfl rfl (Or.inl rfl) rfl rfl rfl rfl (Nat.le_trans (Nat.le_of_ble_eq_true rfl) hd) (Nat.le_of_ble_eq_true rfl) (Nat.le_of_ble_eq_true rfl) (Nat.le_of_ble_eq_true rfl) (fun x hx => absurd hx List.not_mem_nil) (q_nmL0 _) (q_nmS0 _) rfl (pos' := 10) (st' := []) (lI' := [(492, r20.1), (511, r20.2), (529, r19)]) (lE' := [(529, (fun _ => none))]) rfl rfl (q_mgw rfl rfl) rfl ?_
  refine q_blk 2 [] (c' := q_kc (t, r, 1, 499, 530, (q_ur ext 529 (1, 0, 136)), (q_ur rx 529 (fun _ => none)), (q_ur L 529 (fun _ => 0))) I E 12 [some (.ref 520), some (.ref 529), none, none, none, none] [.int (1 : Int32), .ref 520] [(492, r20.1), (511, r20.2), (529, r19)] [(529, (fun _ => none))]) ok_X14_copyAll rfl q_cn ?_
  obtain ⟨r21, hr21, hf⟩ := q_bd hf
  refine q_kV (M2 := m_X14_bales) (As := [.int (1 : Int32)]) (b := 520) (v2 := some (.int r21)) ok_X14_copyAll ok_X14_bales cv_X14_bales (ct_X14_bales_520 (d := 1) (Nat.le_refl _) hr21) rfl rfl (Or.inl rfl) rfl rfl rfl rfl (Nat.le_trans (Nat.le_of_ble_eq_true rfl) hd) (Nat.le_of_ble_eq_true rfl) (Nat.le_of_ble_eq_true rfl) (Nat.le_of_ble_eq_true rfl) (fun x hx => absurd hx List.not_mem_nil) (q_nmL0 _) (q_nmS0 _) rfl (pos' := 13) (st' := [.int r21]) (lI' := [(492, r20.1), (511, r20.2), (529, r19)]) (lE' := [(529, (fun _ => none))]) rfl rfl rfl rfl ?_
  refine q_blk 3 [] (c' := q_kc (t, r, 1, 499, 530, (q_ur ext 529 (1, 0, 136)), (q_ur rx 529 (fun _ => none)), (q_ur L 529 (fun _ => 0))) I E 16 [some (.ref 520), some (.ref 529), some (.int r21), some (.int (0 : Int32)), none, none] [] [(492, r20.1), (511, r20.2), (529, r19)] [(529, (fun _ => none))]) ok_X14_copyAll rfl q_cn ?_
  obtain ⟨r22, hr22, hf⟩ := q_bd hf
  refine lp_X14_copyAll_L16_520 (I := q_ws I [(492, r20.1), (511, r20.2), (529, r19)]) (E := q_ws E [(529, (fun _ => none))]) hd (Nat.le_of_ble_eq_true rfl) (Nat.le_of_ble_eq_true rfl) 4096 hr22 ?_
  refine q_Jmrg (lI' := [(492, r20.1), (511, r20.2), (522, r22), (529, r19)]) (lE' := [(529, (fun _ => none))]) (q_mgw rfl rfl) (q_mgw rfl rfl) ?_
  refine q_blk 4 [] (c' := q_kc (t, r, 1, 499, 530, (q_ur ext 529 (1, 0, 136)), (q_ur rx 529 (fun _ => none)), (q_ur L 529 (fun _ => 0))) I E 35 [some (.ref 520), some (.ref 529), some (.int r21), some (.int (0 : Int32)), some (.int (0 : Int32)), none] [] [(492, r20.1), (511, r20.2), (522, r22), (529, r19)] [(529, (fun _ => none))]) ok_X14_copyAll rfl q_cn ?_
  obtain ⟨r23, hr23, hf⟩ := q_bd hf
  refine lp_X14_copyAll_L35_520 (I := q_ws I [(492, r20.1), (511, r20.2), (522, r22), (529, r19)]) (E := q_ws E [(529, (fun _ => none))]) hd (Nat.le_of_ble_eq_true rfl) (Nat.le_of_ble_eq_true rfl) 4096 hr23 ?_
  refine q_Jmrg (lI' := [(492, r23.2.1), (510, r23.2.2.1), (511, r23.2.2.2.1), (520, r23.2.2.2.2.1), (522, r23.2.2.2.2.2.1), (523, r23.2.2.2.2.2.2.1), (526, r23.2.2.2.2.2.2.2), (529, r19)]) (lE' := [(529, (fun _ => none))]) (q_mgw rfl rfl) (q_mgw rfl rfl) ?_
  refine q_blk 2 [] (c' := q_kc (t, r, 1, 499, 530, (q_ur ext 529 (1, 0, 136)), (q_ur rx 529 (fun _ => none)), (q_ur L 529 (fun _ => 0))) I E 54 [some (.ref 520), some (.ref 529), some (.int r21), some (.int r23.1), some (.int (0 : Int32)), none] [] [(492, r23.2.1), (510, r23.2.2.1), (511, r23.2.2.2.1), (520, r23.2.2.2.2.1), (522, r23.2.2.2.2.2.1), (523, r23.2.2.2.2.2.2.1), (526, r23.2.2.2.2.2.2.2), (529, r19)] [(529, (fun _ => none))]) ok_X14_copyAll rfl q_cn ?_
  obtain ⟨r24, hr24, hf⟩ := q_bd hf
  refine lp_X14_copyAll_L54_520 (I := q_ws I [(492, r23.2.1), (510, r23.2.2.1), (511, r23.2.2.2.1), (520, r23.2.2.2.2.1), (522, r23.2.2.2.2.2.1), (523, r23.2.2.2.2.2.2.1), (526, r23.2.2.2.2.2.2.2), (529, r19)]) (E := q_ws E [(529, (fun _ => none))]) hd (Nat.le_of_ble_eq_true rfl) (Nat.le_of_ble_eq_true rfl) 4096 hr24 ?_
  refine q_Jmrg (lI' := [(492, r24.2.1), (510, r24.2.2.1), (511, r24.2.2.2.1), (520, r24.2.2.2.2.1), (522, r24.2.2.2.2.2.1), (523, r24.2.2.2.2.2.2.1), (526, r24.2.2.2.2.2.2.2), (529, r19)]) (lE' := [(529, (fun _ => none))]) (q_mgw rfl rfl) (q_mgw rfl rfl) ?_
  refine q_blk 2 [] (c' := q_kc (t, r, 1, 499, 530, (q_ur ext 529 (1, 0, 136)), (q_ur rx 529 (fun _ => none)), (q_ur L 529 (fun _ => 0))) I E 88 [some (.ref 520), some (.ref 529), some (.int r21), some (.int r24.1), some (.int (0 : Int32)), none] [] [(492, r24.2.1), (510, r24.2.2.1), (511, r24.2.2.2.1), (520, r24.2.2.2.2.1), (522, r24.2.2.2.2.2.1), (523, r24.2.2.2.2.2.2.1), (526, r24.2.2.2.2.2.2.2), (529, r19)] [(529, (fun _ => none))]) ok_X14_copyAll rfl q_cn ?_
  obtain ⟨r25, hr25, hf⟩ := q_bd hf
  refine lp_X14_copyAll_L88_520 (I := q_ws I [(492, r24.2.1), (510, r24.2.2.1), (511, r24.2.2.2.1), (520, r24.2.2.2.2.1), (522, r24.2.2.2.2.2.1), (523, r24.2.2.2.2.2.2.1), (526, r24.2.2.2.2.2.2.2), (529, r19)]) (E := q_ws E [(529, (fun _ => none))]) hd (Nat.le_of_ble_eq_true rfl) (Nat.le_of_ble_eq_true rfl) 4096 hr25 ?_
  refine q_Jmrg (lI' := [(492, r25.1), (510, r25.2.1), (511, r25.2.2.1), (520, r25.2.2.2.1), (522, r25.2.2.2.2.1), (523, r25.2.2.2.2.2.1), (526, r25.2.2.2.2.2.2), (529, r19)]) (lE' := [(529, (fun _ => none))]) (q_mgw rfl rfl) (q_mgw rfl rfl) ?_
  refine q_blk 27 [] (c' := q_kc (t, r, 1, 499, 530, (q_ur ext 529 (1, 0, 136)), (q_ur rx 529 (fun _ => none)), (q_ur L 529 (fun _ => 0))) I E 132 [some (.ref 520), none, some (.int r21), none, none, none] [.int (r21 - (r25.1 16))] [(492, r25.1), (510, r25.2.1), (511, r25.2.2.1), (520, (q_up (q_up (q_up r25.2.2.2.1 2 ((1 : Int32) - (r25.2.2.2.1 2))) 3 (((q_up r25.2.2.2.1 2 ((1 : Int32) - (r25.2.2.2.1 2))) 3) + (1 : Int32))) 5 (((q_up (q_up r25.2.2.2.1 2 ((1 : Int32) - (r25.2.2.2.1 2))) 3 (((q_up r25.2.2.2.1 2 ((1 : Int32) - (r25.2.2.2.1 2))) 3) + (1 : Int32))) 5) + (r21 - (r25.1 16))))), (522, r25.2.2.2.2.1), (523, r25.2.2.2.2.2.1), (526, r25.2.2.2.2.2.2), (529, r19)] [(529, (fun _ => none))]) ok_X14_copyAll rfl q_cn ?_
  cases hf
  refine q_less (ls' := [none, none, none, none, none, none]) (q_sb1 (q_sb1 (q_sb1 (q_sb1 (q_sb1 (q_sb1 q_sb0)))))) ?_
  refine q_kdrop (lI0 := [(492, r25.1), (510, r25.2.1), (511, r25.2.2.1), (520, (q_up (q_up (q_up r25.2.2.2.1 2 ((1 : Int32) - (r25.2.2.2.1 2))) 3 (((q_up r25.2.2.2.1 2 ((1 : Int32) - (r25.2.2.2.1 2))) 3) + (1 : Int32))) 5 (((q_up (q_up r25.2.2.2.1 2 ((1 : Int32) - (r25.2.2.2.1 2))) 3 (((q_up r25.2.2.2.1 2 ((1 : Int32) - (r25.2.2.2.1 2))) 3) + (1 : Int32))) 5) + (r21 - (r25.1 16))))), (522, r25.2.2.2.2.1), (523, r25.2.2.2.2.2.1), (526, r25.2.2.2.2.2.2)]) (lE0 := []) hclo0 rfl rfl (q_nrS_of rfl) (q_nrL_of rfl) (Nat.le_refl _) rfl ?_
  exact q_kri ok_X14_copyAll rfl rfl rfl (Nat.le_of_ble_eq_true rfl) (Nat.le_of_ble_eq_true rfl) ⟨rfl, q_hpe (q_pdw [492, 510, 511, 520, 522, 523, 526] rfl rfl) (q_pdw [] rfl rfl)⟩
