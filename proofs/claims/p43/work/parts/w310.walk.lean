set_option maxHeartbeats 4000000 in
theorem ct_X4_clear_483 {g : q_G} {t : Nat} {r : Nat} {m : Nat} {z : Nat} {N : Nat} {ext : Nat → q_Sh} {rx : Nat → Nat → Option Nat} {L : Nat → Nat → Int64} {d : Nat} (hd : 2 ≤ d)  {I : Nat → Nat → Int32} {E : Nat → Nat → Option Nat} {r0 : (Nat → Int32) × (Nat → Int32)} (hf : f_X4_clear (I 483) (I 485) = some r0) : q_Ct g m_X4_clear d 0 0 [] [.ref 483] (q_hp (t, r, m, z, N, ext, rx, L) I E) (fun o h' => o = .inl none ∧ h' = q_hp (t, r, m, z, N, ext, rx, L) (q_ws I [(483, r0.1), (485, r0.2)]) (q_ws E [])) := by
  rw [f_X4_clear] at hf
  refine q_Ct_of ok_X4_clear (Nat.le_of_ble_eq_true rfl) ?_ _ rfl rfl
  change q_J g m_X4_clear d 0 0 _ [] _ 0 0 (q_kc (t, r, m, z, N, ext, rx, L) I E 0 [some (.ref 483)] [] [] [])
  refine q_blk 3 [] (c' := q_kc (t, r, m, z, N, ext, rx, L) I E 3 [some (.ref 483)] [.int (-1 : Int32), .ref 485] [] []) ok_X4_clear rfl q_cn ?_
  refine q_kS (M2 := m_J7_fill_53178) (As := [.ref 485, .int (-1 : Int32)]) (v2 := none) ok_X4_clear ok_J7_fill_53178 cs_J7_fill_53178 (ct_fill (d := 1) (a := 485) (L := 128) (Nat.le_refl _) rfl rfl rfl) rfl rfl (Or.inl rfl) (Nat.le_trans (Nat.le_of_ble_eq_true rfl) hd) (Nat.le_of_ble_eq_true rfl) (Nat.le_of_ble_eq_true rfl) (Nat.le_of_ble_eq_true rfl) (fun x hx => absurd hx List.not_mem_nil) (q_nmL0 _) (q_nmS0 _) rfl (pos' := 4) (st' := []) (lI' := [(485, (q_fil 128 (-1 : Int32) (I 485)))]) (lE' := []) rfl rfl (q_mgw rfl rfl) rfl ?_
  refine q_blk 3 [] (c' := q_kc (t, r, m, z, N, ext, rx, L) I E 7 [some (.ref 483)] [] [(483, (q_up (I 483) 2 (0 : Int32))), (485, (q_fil 128 (-1 : Int32) (I 485)))] []) ok_X4_clear rfl q_cn ?_
  cases hf
  exact q_krv ok_X4_clear rfl rfl (Nat.le_of_ble_eq_true rfl) (Nat.le_of_ble_eq_true rfl) ⟨rfl, q_hpe (q_pdw [483, 485] rfl rfl) (q_pdw [] rfl rfl)⟩
set_option maxHeartbeats 4000000 in
theorem ct_X1_liesInHalf_474 {g : q_G} {t : Nat} {r : Nat} {m : Nat} {z : Nat} {N : Nat} {ext : Nat → q_Sh} {rx : Nat → Nat → Option Nat} {L : Nat → Nat → Int64} {d : Nat} (hd : 1 ≤ d)  {I : Nat → Nat → Int32} {E : Nat → Nat → Option Nat} {x1 : Int32} {r0 : Bool} (hf : f_X1_liesInHalf (I 475) x1 = some r0) : q_Ct g m_X1_liesInHalf d 0 0 [] [.ref 474, .int x1] (q_hp (t, r, m, z, N, ext, rx, L) I E) (fun o h' => o = .inl (some (.int (q_bz r0))) ∧ h' = q_hp (t, r, m, z, N, ext, rx, L) (q_ws I []) (q_ws E [])) := by
  rw [f_X1_liesInHalf] at hf
  refine q_Ct_of ok_X1_liesInHalf (Nat.le_of_ble_eq_true rfl) ?_ _ rfl rfl
  change q_J g m_X1_liesInHalf d 0 0 _ [] _ 0 0 (q_kc (t, r, m, z, N, ext, rx, L) I E 0 [some (.ref 474), some (.int x1)] [] [] [])
  refine q_blf 1 [] (a := q_kc (t, r, m, z, N, ext, rx, L) I E 13 [some (.ref 474), some (.int x1)] [] [] []) (b := q_kc (t, r, m, z, N, ext, rx, L) I E 2 [some (.ref 474), some (.int x1)] [] [] []) (P := x1 < 0) ok_X1_liesInHalf rfl q_cn (fun h1 => ?_) (fun h1 => ?_)
  · have hf := q_ip h1 hf
    refine q_blk 1 [] (c' := q_kc (t, r, m, z, N, ext, rx, L) I E 14 [some (.ref 474), some (.int x1)] [.int (0 : Int32)] [] []) ok_X1_liesInHalf rfl q_cn ?_
    cases hf
    exact q_kri ok_X1_liesInHalf rfl rfl rfl (Nat.le_of_ble_eq_true rfl) (Nat.le_of_ble_eq_true rfl) ⟨rfl, q_hpe (q_pdw [] rfl rfl) (q_pdw [] rfl rfl)⟩
  · have hf := q_in h1 hf
    refine q_blf 2 [] (a := q_kc (t, r, m, z, N, ext, rx, L) I E 13 [some (.ref 474), some (.int x1)] [] [] []) (b := q_kc (t, r, m, z, N, ext, rx, L) I E 5 [some (.ref 474), some (.int x1)] [] [] []) (P := (128 : Int32) ≤ x1) ok_X1_liesInHalf rfl q_cn (fun h2 => ?_) (fun h2 => ?_)
    · have hf := q_ip h2 hf
      refine q_blk 1 [] (c' := q_kc (t, r, m, z, N, ext, rx, L) I E 14 [some (.ref 474), some (.int x1)] [.int (0 : Int32)] [] []) ok_X1_liesInHalf rfl q_cn ?_
      cases hf
      exact q_kri ok_X1_liesInHalf rfl rfl rfl (Nat.le_of_ble_eq_true rfl) (Nat.le_of_ble_eq_true rfl) ⟨rfl, q_hpe (q_pdw [] rfl rfl) (q_pdw [] rfl rfl)⟩
    · have hf := q_in h2 hf
      obtain ⟨j3, hj3, hf⟩ := q_bd hf
      refine q_blf 5 [j3] (a := q_kc (t, r, m, z, N, ext, rx, L) I E 13 [some (.ref 474), some (.int x1)] [] [] []) (b := q_kc (t, r, m, z, N, ext, rx, L) I E 11 [some (.ref 474), some (.int x1)] [] [] []) (P := ¬ ((I 475) j3) = (1 : Int32)) ok_X1_liesInHalf rfl (q_cc hj3 q_cn) (fun h4 => ?_) (fun h4 => ?_)
      · have hf := q_ip h4 hf
        refine q_blk 1 [] (c' := q_kc (t, r, m, z, N, ext, rx, L) I E 14 [some (.ref 474), some (.int x1)] [.int (0 : Int32)] [] []) ok_X1_liesInHalf rfl q_cn ?_
        cases hf
        exact q_kri ok_X1_liesInHalf rfl rfl rfl (Nat.le_of_ble_eq_true rfl) (Nat.le_of_ble_eq_true rfl) ⟨rfl, q_hpe (q_pdw [] rfl rfl) (q_pdw [] rfl rfl)⟩
      · have hf := q_in h4 hf
        refine q_blk 2 [] (c' := q_kc (t, r, m, z, N, ext, rx, L) I E 14 [some (.ref 474), some (.int x1)] [.int (1 : Int32)] [] []) ok_X1_liesInHalf rfl q_cn ?_
        cases hf
        exact q_kri ok_X1_liesInHalf rfl rfl rfl (Nat.le_of_ble_eq_true rfl) (Nat.le_of_ble_eq_true rfl) ⟨rfl, q_hpe (q_pdw [] rfl rfl) (q_pdw [] rfl rfl)⟩
set_option maxHeartbeats 4000000 in
theorem ct_X4_add_483 {g : q_G} {t : Nat} {r : Nat} {m : Nat} {z : Nat} {N : Nat} {ext : Nat → q_Sh} {rx : Nat → Nat → Option Nat} {L : Nat → Nat → Int64} {d : Nat} (hd : 1 ≤ d)  {I : Nat → Nat → Int32} {E : Nat → Nat → Option Nat} {x1 : Int32} {x2 : Int32} {r0 : Bool × (Nat → Int32) × (Nat → Int32) × (Nat → Int32)} (hf : f_X4_add (I 483) (I 484) (I 485) x1 x2 = some r0) : q_Ct g m_X4_add d 0 0 [] [.ref 483, .int x1, .int x2] (q_hp (t, r, m, z, N, ext, rx, L) I E) (fun o h' => o = .inl (some (.int (q_bz r0.1))) ∧ h' = q_hp (t, r, m, z, N, ext, rx, L) (q_ws I [(483, r0.2.1), (484, r0.2.2.1), (485, r0.2.2.2)]) (q_ws E [])) := by
  rw [f_X4_add] at hf
  refine q_Ct_of ok_X4_add (Nat.le_of_ble_eq_true rfl) ?_ _ rfl rfl
  change q_J g m_X4_add d 0 0 _ [] _ 0 0 (q_kc (t, r, m, z, N, ext, rx, L) I E 0 [some (.ref 483), some (.int x1), some (.int x2)] [] [] [])
  refine q_blf 1 [] (a := q_kc (t, r, m, z, N, ext, rx, L) I E 12 [some (.ref 483), some (.int x1), some (.int x2)] [] [] []) (b := q_kc (t, r, m, z, N, ext, rx, L) I E 2 [some (.ref 483), some (.int x1), some (.int x2)] [] [] []) (P := x1 < 0) ok_X4_add rfl q_cn (fun h1 => ?_) (fun h1 => ?_)
  · have hf := q_ip h1 hf
    refine q_blk 1 [] (c' := q_kc (t, r, m, z, N, ext, rx, L) I E 13 [some (.ref 483), some (.int x1), some (.int x2)] [.int (0 : Int32)] [] []) ok_X4_add rfl q_cn ?_
    cases hf
    exact q_kri ok_X4_add rfl rfl rfl (Nat.le_of_ble_eq_true rfl) (Nat.le_of_ble_eq_true rfl) ⟨rfl, q_hpe (q_pdw [483, 484, 485] rfl rfl) (q_pdw [] rfl rfl)⟩
  · have hf := q_in h1 hf
    refine q_blf 2 [] (a := q_kc (t, r, m, z, N, ext, rx, L) I E 12 [some (.ref 483), some (.int x1), some (.int x2)] [] [] []) (b := q_kc (t, r, m, z, N, ext, rx, L) I E 5 [some (.ref 483), some (.int x1), some (.int x2)] [] [] []) (P := (128 : Int32) ≤ x1) ok_X4_add rfl q_cn (fun h2 => ?_) (fun h2 => ?_)
    · have hf := q_ip h2 hf
      refine q_blk 1 [] (c' := q_kc (t, r, m, z, N, ext, rx, L) I E 13 [some (.ref 483), some (.int x1), some (.int x2)] [.int (0 : Int32)] [] []) ok_X4_add rfl q_cn ?_
      cases hf
      exact q_kri ok_X4_add rfl rfl rfl (Nat.le_of_ble_eq_true rfl) (Nat.le_of_ble_eq_true rfl) ⟨rfl, q_hpe (q_pdw [483, 484, 485] rfl rfl) (q_pdw [] rfl rfl)⟩
    · have hf := q_in h2 hf
      refine q_blf 2 [] (a := q_kc (t, r, m, z, N, ext, rx, L) I E 12 [some (.ref 483), some (.int x1), some (.int x2)] [] [] []) (b := q_kc (t, r, m, z, N, ext, rx, L) I E 8 [some (.ref 483), some (.int x1), some (.int x2)] [] [] []) (P := ((I 483) 2) < 0) ok_X4_add rfl q_cn (fun h3 => ?_) (fun h3 => ?_)
      · have hf := q_ip h3 hf
        refine q_blk 1 [] (c' := q_kc (t, r, m, z, N, ext, rx, L) I E 13 [some (.ref 483), some (.int x1), some (.int x2)] [.int (0 : Int32)] [] []) ok_X4_add rfl q_cn ?_
        cases hf
        exact q_kri ok_X4_add rfl rfl rfl (Nat.le_of_ble_eq_true rfl) (Nat.le_of_ble_eq_true rfl) ⟨rfl, q_hpe (q_pdw [483, 484, 485] rfl rfl) (q_pdw [] rfl rfl)⟩
      · have hf := q_in h3 hf
        refine q_blf 3 [] (a := q_kc (t, r, m, z, N, ext, rx, L) I E 14 [some (.ref 483), some (.int x1), some (.int x2)] [] [] []) (b := q_kc (t, r, m, z, N, ext, rx, L) I E 12 [some (.ref 483), some (.int x1), some (.int x2)] [] [] []) (P := ((I 483) 2) < (128 : Int32)) ok_X4_add rfl q_cn (fun h4 => ?_) (fun h4 => ?_)
        · have hf := q_ip h4 hf
          obtain ⟨j5, hj5, hf⟩ := q_bd hf
          refine q_blf 5 [j5] (a := q_kc (t, r, m, z, N, ext, rx, L) I E 22 [some (.ref 483), some (.int x1), some (.int x2)] [] [] []) (b := q_kc (t, r, m, z, N, ext, rx, L) I E 20 [some (.ref 483), some (.int x1), some (.int x2)] [] [] []) (P := ((I 485) j5) = (-1 : Int32)) ok_X4_add rfl (q_cc hj5 q_cn) (fun h6 => ?_) (fun h6 => ?_)
          · have hf := q_ip h6 hf
            obtain ⟨j7, hj7, hf⟩ := q_bd hf
            obtain ⟨j8, hj8, hf⟩ := q_bd hf
            refine q_blk 18 [j7, j8] (c' := q_kc (t, r, m, z, N, ext, rx, L) I E 40 [some (.ref 483), some (.int x1), some (.int x2)] [.int (1 : Int32)] [(483, (q_up (I 483) 2 (((I 483) 2) + (1 : Int32)))), (484, (q_up (I 484) j8 x1)), (485, (q_up (I 485) j7 x2))] []) ok_X4_add rfl (q_cc hj8 (q_cc hj7 q_cn)) ?_
            cases hf
            exact q_kri ok_X4_add rfl rfl rfl (Nat.le_of_ble_eq_true rfl) (Nat.le_of_ble_eq_true rfl) ⟨rfl, q_hpe (q_pdw [483, 484, 485] rfl rfl) (q_pdw [] rfl rfl)⟩
          · have hf := q_in h6 hf
            refine q_blk 1 [] (c' := q_kc (t, r, m, z, N, ext, rx, L) I E 21 [some (.ref 483), some (.int x1), some (.int x2)] [.int (0 : Int32)] [] []) ok_X4_add rfl q_cn ?_
            cases hf
            exact q_kri ok_X4_add rfl rfl rfl (Nat.le_of_ble_eq_true rfl) (Nat.le_of_ble_eq_true rfl) ⟨rfl, q_hpe (q_pdw [483, 484, 485] rfl rfl) (q_pdw [] rfl rfl)⟩
        · have hf := q_in h4 hf
          refine q_blk 1 [] (c' := q_kc (t, r, m, z, N, ext, rx, L) I E 13 [some (.ref 483), some (.int x1), some (.int x2)] [.int (0 : Int32)] [] []) ok_X4_add rfl q_cn ?_
          cases hf
          exact q_kri ok_X4_add rfl rfl rfl (Nat.le_of_ble_eq_true rfl) (Nat.le_of_ble_eq_true rfl) ⟨rfl, q_hpe (q_pdw [483, 484, 485] rfl rfl) (q_pdw [] rfl rfl)⟩
set_option maxHeartbeats 4000000 in
theorem lp_X5_gapFor_L4_481 {g : q_G} {d mc ms : Nat} {h0 : q_H} {Q : (Option Value ⊕ String) → q_H → Prop} {k n : Nat} {t : Nat} {r : Nat} {m : Nat} {z : Nat} {N : Nat} {ext : Nat → q_Sh} {rx : Nat → Nat → Option Nat} {L : Nat → Nat → Int64} (hd : 1 ≤ d) (hk : k ≤ mc) (hn : n ≤ ms)  {v1 : Int32} : ∀ (fu : Nat) {I : Nat → Nat → Int32} {E : Nat → Nat → Option Nat} {v2 : Int32} {v3 : Int32} {r0 : Nat × Int32 × Int32} (hf : f_X5_gapFor_L4 (I 481) (I 482) v1 fu v2 v3 = some r0) (hK0 : r0.1 = 0 → q_J g m_X5_gapFor d mc ms h0 [] Q k n (q_kc (t, r, m, z, N, ext, rx, L) I E 34 [none, none, none, none] [] [] [])) (hK1 : r0.1 = 1 → q_J g m_X5_gapFor d mc ms h0 [] Q k n (q_kc (t, r, m, z, N, ext, rx, L) I E 26 [none, none, some (.int r0.2.1), some (.int r0.2.2)] [] [] [])), q_J g m_X5_gapFor d mc ms h0 [] Q k n (4, [some (.ref 481), some (.int v1), some (.int v2), some (.int v3)], [], q_hp (t, r, m, z, N, ext, rx, L) I E) := by
  intro fu
  induction fu with
  | zero =>
    intro I E v2 v3 r0 hf hK0 hK1
    rw [f_X5_gapFor_L4] at hf
    cases hf
  | succ fu ih =>
    intro I E v2 v3 r0 hf hK0 hK1
    rw [f_X5_gapFor_L4] at hf
    change q_J g m_X5_gapFor d mc ms h0 [] Q k n (q_kc (t, r, m, z, N, ext, rx, L) I E 4 [some (.ref 481), some (.int v1), some (.int v2), some (.int v3)] [] [] [])
    refine q_blf 3 [] (a := q_kc (t, r, m, z, N, ext, rx, L) I E 34 [some (.ref 481), some (.int v1), some (.int v2), some (.int v3)] [] [] []) (b := q_kc (t, r, m, z, N, ext, rx, L) I E 8 [some (.ref 481), some (.int v1), some (.int v2), some (.int v3)] [] [] []) (P := ((I 481) 1) ≤ v3) ok_X5_gapFor rfl q_cn (fun h1 => ?_) (fun h1 => ?_)
    · have hf := q_ip h1 hf
      refine q_less (ls' := [none, none, none, none]) (q_sb1 (q_sb1 (q_sb1 (q_sb1 q_sb0)))) ?_
      cases hf
      exact q_Jpad (q_pdw [] rfl rfl) (q_pdw [] rfl rfl) (hK0 rfl)
    · have hf := q_in h1 hf
      refine q_blf 2 [] (a := q_kc (t, r, m, z, N, ext, rx, L) I E 34 [some (.ref 481), some (.int v1), some (.int v2), some (.int v3)] [] [] []) (b := q_kc (t, r, m, z, N, ext, rx, L) I E 11 [some (.ref 481), some (.int v1), some (.int v2), some (.int v3)] [] [] []) (P := (64 : Int32) ≤ v3) ok_X5_gapFor rfl q_cn (fun h2 => ?_) (fun h2 => ?_)
      · have hf := q_ip h2 hf
        refine q_less (ls' := [none, none, none, none]) (q_sb1 (q_sb1 (q_sb1 (q_sb1 q_sb0)))) ?_
        cases hf
        exact q_Jpad (q_pdw [] rfl rfl) (q_pdw [] rfl rfl) (hK0 rfl)
      · have hf := q_in h2 hf
        obtain ⟨j3, hj3, hf⟩ := q_bd hf
        refine q_blf 5 [j3] (a := q_kc (t, r, m, z, N, ext, rx, L) I E 21 [some (.ref 481), some (.int v1), some (.int v2), some (.int v3)] [] [] []) (b := q_kc (t, r, m, z, N, ext, rx, L) I E 17 [some (.ref 481), some (.int v1), some (.int v2), some (.int v3)] [] [] []) (P := ¬ ((I 482) j3) = (-1 : Int32)) ok_X5_gapFor rfl (q_cc hj3 q_cn) (fun h4 => ?_) (fun h4 => ?_)
        · have hf := q_ip h4 hf
          refine q_blf 4 [] (a := q_kc (t, r, m, z, N, ext, rx, L) I E 32 [some (.ref 481), some (.int v1), some (.int (0 : Int32)), some (.int v3)] [] [] []) (b := q_kc (t, r, m, z, N, ext, rx, L) I E 26 [some (.ref 481), some (.int v1), some (.int (0 : Int32)), some (.int v3)] [] [] []) (P := (0 : Int32) < v1) ok_X5_gapFor rfl q_cn (fun h5 => ?_) (fun h5 => ?_)
          · have hf := q_ip h5 hf
            refine q_blk 2 [] (c' := q_kc (t, r, m, z, N, ext, rx, L) I E 4 [some (.ref 481), some (.int v1), some (.int (0 : Int32)), some (.int (v3 + 1))] [] [] []) ok_X5_gapFor rfl q_cn ?_
            exact ih (I := q_ws I []) (E := q_ws E []) hf (fun hz => q_Jmrg (q_mgw rfl rfl) (q_mgw rfl rfl) (hK0 hz)) (fun hz => q_Jmrg (q_mgw rfl rfl) (q_mgw rfl rfl) (hK1 hz))
          · have hf := q_in h5 hf
            refine q_less (ls' := [none, none, some (.int (0 : Int32)), some (.int v3)]) (q_sb1 (q_sb1 (q_sb2 (q_sb2 q_sb0)))) ?_
            cases hf
            exact q_Jpad (q_pdw [] rfl rfl) (q_pdw [] rfl rfl) (hK1 rfl)
        · have hf := q_in h4 hf
          refine q_blf 7 [] (a := q_kc (t, r, m, z, N, ext, rx, L) I E 32 [some (.ref 481), some (.int v1), some (.int (v2 + (1 : Int32))), some (.int v3)] [] [] []) (b := q_kc (t, r, m, z, N, ext, rx, L) I E 26 [some (.ref 481), some (.int v1), some (.int (v2 + (1 : Int32))), some (.int v3)] [] [] []) (P := (v2 + (1 : Int32)) < v1) ok_X5_gapFor rfl q_cn (fun h6 => ?_) (fun h6 => ?_)
          · have hf := q_ip h6 hf
            refine q_blk 2 [] (c' := q_kc (t, r, m, z, N, ext, rx, L) I E 4 [some (.ref 481), some (.int v1), some (.int (v2 + (1 : Int32))), some (.int (v3 + 1))] [] [] []) ok_X5_gapFor rfl q_cn ?_
            exact ih (I := q_ws I []) (E := q_ws E []) hf (fun hz => q_Jmrg (q_mgw rfl rfl) (q_mgw rfl rfl) (hK0 hz)) (fun hz => q_Jmrg (q_mgw rfl rfl) (q_mgw rfl rfl) (hK1 hz))
          · have hf := q_in h6 hf
            refine q_less (ls' := [none, none, some (.int (v2 + (1 : Int32))), some (.int v3)]) (q_sb1 (q_sb1 (q_sb2 (q_sb2 q_sb0)))) ?_
            cases hf
            exact q_Jpad (q_pdw [] rfl rfl) (q_pdw [] rfl rfl) (hK1 rfl)
set_option maxHeartbeats 4000000 in
theorem ct_X5_gapFor_481 {g : q_G} {t : Nat} {r : Nat} {m : Nat} {z : Nat} {N : Nat} {ext : Nat → q_Sh} {rx : Nat → Nat → Option Nat} {L : Nat → Nat → Int64} {d : Nat} (hd : 1 ≤ d)  {I : Nat → Nat → Int32} {E : Nat → Nat → Option Nat} {x1 : Int32} {r0 : Int32} (hf : f_X5_gapFor (I 481) (I 482) x1 = some r0) : q_Ct g m_X5_gapFor d 0 0 [] [.ref 481, .int x1] (q_hp (t, r, m, z, N, ext, rx, L) I E) (fun o h' => o = .inl (some (.int r0)) ∧ h' = q_hp (t, r, m, z, N, ext, rx, L) (q_ws I []) (q_ws E [])) := by
  rw [f_X5_gapFor] at hf
  refine q_Ct_of ok_X5_gapFor (Nat.le_of_ble_eq_true rfl) ?_ _ rfl rfl
  change q_J g m_X5_gapFor d 0 0 _ [] _ 0 0 (q_kc (t, r, m, z, N, ext, rx, L) I E 0 [some (.ref 481), some (.int x1), none, none] [] [] [])
  refine q_blk 4 [] (c' := q_kc (t, r, m, z, N, ext, rx, L) I E 4 [some (.ref 481), some (.int x1), some (.int (0 : Int32)), some (.int (0 : Int32))] [] [] []) ok_X5_gapFor rfl q_cn ?_
  obtain ⟨r7, hr7, hf⟩ := q_bd hf
  refine lp_X5_gapFor_L4_481 (I := q_ws I []) (E := q_ws E []) hd (Nat.le_of_ble_eq_true rfl) (Nat.le_of_ble_eq_true rfl) 4096 hr7 ?_ ?_
  · intro hz0
    have hf := q_ip hz0 hf
    refine q_Jmrg (lI' := []) (lE' := []) (q_mgw rfl rfl) (q_mgw rfl rfl) ?_
    refine q_blk 1 [] (c' := q_kc (t, r, m, z, N, ext, rx, L) I E 35 [none, none, none, none] [.int (-1 : Int32)] [] []) ok_X5_gapFor rfl q_cn ?_
    cases hf
    exact q_kri ok_X5_gapFor rfl rfl rfl (Nat.le_of_ble_eq_true rfl) (Nat.le_of_ble_eq_true rfl) ⟨rfl, q_hpe (q_pdw [] rfl rfl) (q_pdw [] rfl rfl)⟩
  · intro hz1
    have hf := q_in (fun h9 => absurd (hz1.symm.trans h9) (by decide)) hf
    refine q_Jmrg (lI' := []) (lE' := []) (q_mgw rfl rfl) (q_mgw rfl rfl) ?_
    refine q_blk 5 [] (c' := q_kc (t, r, m, z, N, ext, rx, L) I E 31 [none, none, some (.int r7.2.1), some (.int r7.2.2)] [.int ((r7.2.2 + (1 : Int32)) - r7.2.1)] [] []) ok_X5_gapFor rfl q_cn ?_
    cases hf
    exact q_kri ok_X5_gapFor rfl rfl rfl (Nat.le_of_ble_eq_true rfl) (Nat.le_of_ble_eq_true rfl) ⟨rfl, q_hpe (q_pdw [] rfl rfl) (q_pdw [] rfl rfl)⟩
set_option maxHeartbeats 4000000 in
theorem ct_X1_copyTo_474 {g : q_G} {t : Nat} {r : Nat} {m : Nat} {z : Nat} {N : Nat} {ext : Nat → q_Sh} {rx : Nat → Nat → Option Nat} {L : Nat → Nat → Int64} {d : Nat} (hd : 1 ≤ d)  {I : Nat → Nat → Int32} {E : Nat → Nat → Option Nat} {x1 : Int32} {x2 : Int32} {r0 : (Nat → Int32) × (Nat → Int32)} (hf : f_X1_copyTo (I 476) (I 478) x1 x2 = some r0) : q_Ct g m_X1_copyTo d 0 0 [] [.ref 474, .int x1, .int x2] (q_hp (t, r, m, z, N, ext, rx, L) I E) (fun o h' => o = .inl none ∧ h' = q_hp (t, r, m, z, N, ext, rx, L) (q_ws I [(476, r0.1), (478, r0.2)]) (q_ws E [])) := by
  rw [f_X1_copyTo] at hf
  refine q_Ct_of ok_X1_copyTo (Nat.le_of_ble_eq_true rfl) ?_ _ rfl rfl
  change q_J g m_X1_copyTo d 0 0 _ [] _ 0 0 (q_kc (t, r, m, z, N, ext, rx, L) I E 0 [some (.ref 474), some (.int x1), some (.int x2)] [] [] [])
  refine q_blf 1 [] (a := q_kc (t, r, m, z, N, ext, rx, L) I E 18 [some (.ref 474), some (.int x1), some (.int x2)] [] [] []) (b := q_kc (t, r, m, z, N, ext, rx, L) I E 2 [some (.ref 474), some (.int x1), some (.int x2)] [] [] []) (P := x1 < 0) ok_X1_copyTo rfl q_cn (fun h1 => ?_) (fun h1 => ?_)
  · have hf := q_ip h1 hf
    cases hf
    exact q_krv ok_X1_copyTo rfl rfl (Nat.le_of_ble_eq_true rfl) (Nat.le_of_ble_eq_true rfl) ⟨rfl, q_hpe (q_pdw [476, 478] rfl rfl) (q_pdw [] rfl rfl)⟩
  · have hf := q_in h1 hf
    refine q_blf 2 [] (a := q_kc (t, r, m, z, N, ext, rx, L) I E 18 [some (.ref 474), some (.int x1), some (.int x2)] [] [] []) (b := q_kc (t, r, m, z, N, ext, rx, L) I E 5 [some (.ref 474), some (.int x1), some (.int x2)] [] [] []) (P := (128 : Int32) ≤ x1) ok_X1_copyTo rfl q_cn (fun h2 => ?_) (fun h2 => ?_)
    · have hf := q_ip h2 hf
      cases hf
      exact q_krv ok_X1_copyTo rfl rfl (Nat.le_of_ble_eq_true rfl) (Nat.le_of_ble_eq_true rfl) ⟨rfl, q_hpe (q_pdw [476, 478] rfl rfl) (q_pdw [] rfl rfl)⟩
    · have hf := q_in h2 hf
      obtain ⟨j3, hj3, hf⟩ := q_bd hf
      obtain ⟨j4, hj4, hf⟩ := q_bd hf
      obtain ⟨j5, hj5, hf⟩ := q_bd hf
      refine q_blk 13 [j3, j4, j5] (c' := q_kc (t, r, m, z, N, ext, rx, L) I E 18 [some (.ref 474), some (.int x1), some (.int x2)] [] [(476, (q_up (I 476) j3 x2)), (478, (q_up (I 478) j5 (((I 478) j4) + (1 : Int32))))] []) ok_X1_copyTo rfl (q_cc hj5 (q_cc hj4 (q_cc hj3 q_cn))) ?_
      cases hf
      exact q_krv ok_X1_copyTo rfl rfl (Nat.le_of_ble_eq_true rfl) (Nat.le_of_ble_eq_true rfl) ⟨rfl, q_hpe (q_pdw [476, 478] rfl rfl) (q_pdw [] rfl rfl)⟩
set_option maxHeartbeats 4000000 in
theorem ct_X2_layInRow_473 {g : q_G} {r : Nat} {m : Nat} {z : Nat} {N : Nat} {ext : Nat → q_Sh} {rx : Nat → Nat → Option Nat} {L : Nat → Nat → Int64} {d : Nat} (hd : 1 ≤ d)  {I : Nat → Nat → Int32} {E : Nat → Nat → Option Nat} {x1 : Int32} {x2 : Int32} {r0 : (Nat → Int32) × (Nat → Int32)} (hf : f_X2_layInRow (I 473) (I 487) x1 x2 = some r0) : q_Ct g m_X2_layInRow d 0 0 [] [.ref 473, .int x1, .int x2] (q_hp (0, r, m, z, N, ext, rx, L) I E) (fun o h' => o = .inl none ∧ h' = q_hp (0, r, m, z, N, ext, rx, L) (q_ws I [(473, r0.1), (487, r0.2)]) (q_ws E [])) := by
  rw [f_X2_layInRow] at hf
  refine q_Ct_of ok_X2_layInRow (Nat.le_of_ble_eq_true rfl) ?_ _ rfl rfl
  change q_J g m_X2_layInRow d 0 0 _ [] _ 0 0 (q_kc (0, r, m, z, N, ext, rx, L) I E 0 [some (.ref 473), some (.int x1), some (.int x2)] [] [] [])
  refine q_blf 2 [] (a := q_kc (0, r, m, z, N, ext, rx, L) I E 25 [some (.ref 473), some (.int x1), some (.int x2)] [] [] []) (b := q_kc (0, r, m, z, N, ext, rx, L) I E 3 [some (.ref 473), some (.int x1), some (.int x2)] [] [] []) (P := ((I 473) 7) < 0) ok_X2_layInRow rfl q_cn (fun h1 => ?_) (fun h1 => ?_)
  · have hf := q_ip h1 hf
    cases hf
    exact q_krv ok_X2_layInRow rfl rfl (Nat.le_of_ble_eq_true rfl) (Nat.le_of_ble_eq_true rfl) ⟨rfl, q_hpe (q_pdw [473, 487] rfl rfl) (q_pdw [] rfl rfl)⟩
  · have hf := q_in h1 hf
    refine q_blf 3 [] (a := q_kc (0, r, m, z, N, ext, rx, L) I E 25 [some (.ref 473), some (.int x1), some (.int x2)] [] [] []) (b := q_kc (0, r, m, z, N, ext, rx, L) I E 7 [some (.ref 473), some (.int x1), some (.int x2)] [] [] []) (P := (64 : Int32) ≤ ((I 473) 7)) ok_X2_layInRow rfl q_cn (fun h2 => ?_) (fun h2 => ?_)
    · have hf := q_ip h2 hf
      cases hf
      exact q_krv ok_X2_layInRow rfl rfl (Nat.le_of_ble_eq_true rfl) (Nat.le_of_ble_eq_true rfl) ⟨rfl, q_hpe (q_pdw [473, 487] rfl rfl) (q_pdw [] rfl rfl)⟩
    · have hf := q_in h2 hf
      obtain ⟨j3, hj3, hf⟩ := q_bd hf
      refine q_blk 18 [j3] (c' := q_kc (0, r, m, z, N, ext, rx, L) I E 25 [some (.ref 473), some (.int x1), some (.int x2)] [] [(473, (q_up (q_up (I 473) 7 (((I 473) 7) + (1 : Int32))) 8 (((q_up (I 473) 7 (((I 473) 7) + (1 : Int32))) 8) + x2))), (487, (q_up (I 487) j3 x1))] []) ok_X2_layInRow rfl (q_cc hj3 q_cn) ?_
      cases hf
      exact q_krv ok_X2_layInRow rfl rfl (Nat.le_of_ble_eq_true rfl) (Nat.le_of_ble_eq_true rfl) ⟨rfl, q_hpe (q_pdw [473, 487] rfl rfl) (q_pdw [] rfl rfl)⟩
set_option maxHeartbeats 4000000 in
theorem ct_X1_promoteTo_474 {g : q_G} {t : Nat} {r : Nat} {m : Nat} {z : Nat} {N : Nat} {ext : Nat → q_Sh} {rx : Nat → Nat → Option Nat} {L : Nat → Nat → Int64} {d : Nat} (hd : 1 ≤ d)  {I : Nat → Nat → Int32} {E : Nat → Nat → Option Nat} {x1 : Int32} {x2 : Int32} {r0 : (Nat → Int32) × (Nat → Int32)} (hf : f_X1_promoteTo (I 475) (I 476) x1 x2 = some r0) : q_Ct g m_X1_promoteTo d 0 0 [] [.ref 474, .int x1, .int x2] (q_hp (t, r, m, z, N, ext, rx, L) I E) (fun o h' => o = .inl none ∧ h' = q_hp (t, r, m, z, N, ext, rx, L) (q_ws I [(475, r0.1), (476, r0.2)]) (q_ws E [])) := by
  rw [f_X1_promoteTo] at hf
  refine q_Ct_of ok_X1_promoteTo (Nat.le_of_ble_eq_true rfl) ?_ _ rfl rfl
  change q_J g m_X1_promoteTo d 0 0 _ [] _ 0 0 (q_kc (t, r, m, z, N, ext, rx, L) I E 0 [some (.ref 474), some (.int x1), some (.int x2)] [] [] [])
  refine q_blf 1 [] (a := q_kc (t, r, m, z, N, ext, rx, L) I E 15 [some (.ref 474), some (.int x1), some (.int x2)] [] [] []) (b := q_kc (t, r, m, z, N, ext, rx, L) I E 2 [some (.ref 474), some (.int x1), some (.int x2)] [] [] []) (P := x1 < 0) ok_X1_promoteTo rfl q_cn (fun h1 => ?_) (fun h1 => ?_)
  · have hf := q_ip h1 hf
    cases hf
    exact q_krv ok_X1_promoteTo rfl rfl (Nat.le_of_ble_eq_true rfl) (Nat.le_of_ble_eq_true rfl) ⟨rfl, q_hpe (q_pdw [475, 476] rfl rfl) (q_pdw [] rfl rfl)⟩
  · have hf := q_in h1 hf
    refine q_blf 2 [] (a := q_kc (t, r, m, z, N, ext, rx, L) I E 15 [some (.ref 474), some (.int x1), some (.int x2)] [] [] []) (b := q_kc (t, r, m, z, N, ext, rx, L) I E 5 [some (.ref 474), some (.int x1), some (.int x2)] [] [] []) (P := (128 : Int32) ≤ x1) ok_X1_promoteTo rfl q_cn (fun h2 => ?_) (fun h2 => ?_)
    · have hf := q_ip h2 hf
      cases hf
      exact q_krv ok_X1_promoteTo rfl rfl (Nat.le_of_ble_eq_true rfl) (Nat.le_of_ble_eq_true rfl) ⟨rfl, q_hpe (q_pdw [475, 476] rfl rfl) (q_pdw [] rfl rfl)⟩
    · have hf := q_in h2 hf
      obtain ⟨j3, hj3, hf⟩ := q_bd hf
      obtain ⟨j4, hj4, hf⟩ := q_bd hf
      refine q_blk 10 [j3, j4] (c' := q_kc (t, r, m, z, N, ext, rx, L) I E 15 [some (.ref 474), some (.int x1), some (.int x2)] [] [(475, (q_up (I 475) j4 (2 : Int32))), (476, (q_up (I 476) j3 x2))] []) ok_X1_promoteTo rfl (q_cc hj4 (q_cc hj3 q_cn)) ?_
      cases hf
      exact q_krv ok_X1_promoteTo rfl rfl (Nat.le_of_ble_eq_true rfl) (Nat.le_of_ble_eq_true rfl) ⟨rfl, q_hpe (q_pdw [475, 476] rfl rfl) (q_pdw [] rfl rfl)⟩
set_option maxHeartbeats 4000000 in
theorem lp_X5_lay_L2_481 {g : q_G} {d mc ms : Nat} {h0 : q_H} {Q : (Option Value ⊕ String) → q_H → Prop} {k n : Nat} {t : Nat} {r : Nat} {m : Nat} {z : Nat} {N : Nat} {ext : Nat → q_Sh} {rx : Nat → Nat → Option Nat} {L : Nat → Nat → Int64} (hd : 1 ≤ d) (hk : k ≤ mc) (hn : n ≤ ms)  {v1 : Int32} {v2 : Int32} {v3 : Int32} : ∀ (fu : Nat) {I : Nat → Nat → Int32} {E : Nat → Nat → Option Nat} {v4 : Int32} {r0 : (Nat → Int32)} (hf : f_X5_lay_L2 (I 481) v1 v2 v3 fu (I 482) v4 = some r0) (hK0 : q_J g m_X5_lay d mc ms h0 [] Q k n (q_kc (t, r, m, z, N, ext, rx, L) I E 25 [some (.ref 481), some (.int v1), none, none, none, none] [] [(482, r0)] [])), q_J g m_X5_lay d mc ms h0 [] Q k n (2, [some (.ref 481), some (.int v1), some (.int v2), some (.int v3), some (.int v4), none], [], q_hp (t, r, m, z, N, ext, rx, L) I E) := by
  intro fu
  induction fu with
  | zero =>
    intro I E v4 r0 hf hK0
    rw [f_X5_lay_L2] at hf
    cases hf
  | succ fu ih =>
    intro I E v4 r0 hf hK0
    rw [f_X5_lay_L2] at hf
    change q_J g m_X5_lay d mc ms h0 [] Q k n (q_kc (t, r, m, z, N, ext, rx, L) I E 2 [some (.ref 481), some (.int v1), some (.int v2), some (.int v3), some (.int v4), none] [] [] [])
    refine q_blf 2 [] (a := q_kc (t, r, m, z, N, ext, rx, L) I E 25 [some (.ref 481), some (.int v1), some (.int v2), some (.int v3), some (.int v4), none] [] [] []) (b := q_kc (t, r, m, z, N, ext, rx, L) I E 5 [some (.ref 481), some (.int v1), some (.int v2), some (.int v3), some (.int v4), none] [] [] []) (P := v3 ≤ v4) ok_X5_lay rfl q_cn (fun h1 => ?_) (fun h1 => ?_)
    · have hf := q_ip h1 hf
      refine q_less (ls' := [some (.ref 481), some (.int v1), none, none, none, none]) (q_sb2 (q_sb2 (q_sb1 (q_sb1 (q_sb1 (q_sb1 q_sb0)))))) ?_
      cases hf
      exact q_Jpad (q_pdw [482] rfl rfl) (q_pdw [] rfl rfl) hK0
    · have hf := q_in h1 hf
      refine q_blf 5 [] (a := q_kc (t, r, m, z, N, ext, rx, L) I E 23 [some (.ref 481), some (.int v1), some (.int v2), some (.int v3), some (.int v4), some (.int (v2 + v4))] [] [] []) (b := q_kc (t, r, m, z, N, ext, rx, L) I E 11 [some (.ref 481), some (.int v1), some (.int v2), some (.int v3), some (.int v4), some (.int (v2 + v4))] [] [] []) (P := (v2 + v4) < 0) ok_X5_lay rfl q_cn (fun h2 => ?_) (fun h2 => ?_)
      · have hf := q_ip h2 hf
        refine q_blk 2 [] (c' := q_kc (t, r, m, z, N, ext, rx, L) I E 2 [some (.ref 481), some (.int v1), some (.int v2), some (.int v3), some (.int (v4 + 1)), some (.int (v2 + v4))] [] [] []) ok_X5_lay rfl q_cn ?_
        refine q_less (ls' := [some (.ref 481), some (.int v1), some (.int v2), some (.int v3), some (.int (v4 + 1)), none]) (q_sb2 (q_sb2 (q_sb2 (q_sb2 (q_sb2 (q_sb1 q_sb0)))))) ?_
        exact ih (I := q_ws I []) (E := q_ws E []) hf (q_Jmrg (q_mgw rfl rfl) (q_mgw rfl rfl) hK0)
      · have hf := q_in h2 hf
        refine q_blf 3 [] (a := q_kc (t, r, m, z, N, ext, rx, L) I E 23 [some (.ref 481), some (.int v1), some (.int v2), some (.int v3), some (.int v4), some (.int (v2 + v4))] [] [] []) (b := q_kc (t, r, m, z, N, ext, rx, L) I E 15 [some (.ref 481), some (.int v1), some (.int v2), some (.int v3), some (.int v4), some (.int (v2 + v4))] [] [] []) (P := ((I 481) 1) ≤ (v2 + v4)) ok_X5_lay rfl q_cn (fun h3 => ?_) (fun h3 => ?_)
        · have hf := q_ip h3 hf
          refine q_blk 2 [] (c' := q_kc (t, r, m, z, N, ext, rx, L) I E 2 [some (.ref 481), some (.int v1), some (.int v2), some (.int v3), some (.int (v4 + 1)), some (.int (v2 + v4))] [] [] []) ok_X5_lay rfl q_cn ?_
          refine q_less (ls' := [some (.ref 481), some (.int v1), some (.int v2), some (.int v3), some (.int (v4 + 1)), none]) (q_sb2 (q_sb2 (q_sb2 (q_sb2 (q_sb2 (q_sb1 q_sb0)))))) ?_
          exact ih (I := q_ws I []) (E := q_ws E []) hf (q_Jmrg (q_mgw rfl rfl) (q_mgw rfl rfl) hK0)
        · have hf := q_in h3 hf
          refine q_blf 2 [] (a := q_kc (t, r, m, z, N, ext, rx, L) I E 23 [some (.ref 481), some (.int v1), some (.int v2), some (.int v3), some (.int v4), some (.int (v2 + v4))] [] [] []) (b := q_kc (t, r, m, z, N, ext, rx, L) I E 18 [some (.ref 481), some (.int v1), some (.int v2), some (.int v3), some (.int v4), some (.int (v2 + v4))] [] [] []) (P := (64 : Int32) ≤ (v2 + v4)) ok_X5_lay rfl q_cn (fun h4 => ?_) (fun h4 => ?_)
          · have hf := q_ip h4 hf
            refine q_blk 2 [] (c' := q_kc (t, r, m, z, N, ext, rx, L) I E 2 [some (.ref 481), some (.int v1), some (.int v2), some (.int v3), some (.int (v4 + 1)), some (.int (v2 + v4))] [] [] []) ok_X5_lay rfl q_cn ?_
            refine q_less (ls' := [some (.ref 481), some (.int v1), some (.int v2), some (.int v3), some (.int (v4 + 1)), none]) (q_sb2 (q_sb2 (q_sb2 (q_sb2 (q_sb2 (q_sb1 q_sb0)))))) ?_
            exact ih (I := q_ws I []) (E := q_ws E []) hf (q_Jmrg (q_mgw rfl rfl) (q_mgw rfl rfl) hK0)
          · have hf := q_in h4 hf
            obtain ⟨j5, hj5, hf⟩ := q_bd hf
            refine q_blk 7 [j5] (c' := q_kc (t, r, m, z, N, ext, rx, L) I E 2 [some (.ref 481), some (.int v1), some (.int v2), some (.int v3), some (.int (v4 + 1)), some (.int (v2 + v4))] [] [(482, (q_up (I 482) j5 v1))] []) ok_X5_lay rfl (q_cc hj5 q_cn) ?_
            refine q_less (ls' := [some (.ref 481), some (.int v1), some (.int v2), some (.int v3), some (.int (v4 + 1)), none]) (q_sb2 (q_sb2 (q_sb2 (q_sb2 (q_sb2 (q_sb1 q_sb0)))))) ?_
            exact ih (I := q_ws I [(482, (q_up (I 482) j5 v1))]) (E := q_ws E []) hf (q_Jmrg (q_mgw rfl rfl) (q_mgw rfl rfl) hK0)
set_option maxHeartbeats 4000000 in
theorem ct_X5_lay_481 {g : q_G} {t : Nat} {r : Nat} {m : Nat} {z : Nat} {N : Nat} {ext : Nat → q_Sh} {rx : Nat → Nat → Option Nat} {L : Nat → Nat → Int64} {d : Nat} (hd : 1 ≤ d)  {I : Nat → Nat → Int32} {E : Nat → Nat → Option Nat} {x1 : Int32} {x2 : Int32} {x3 : Int32} {r0 : (Nat → Int32) × (Nat → Int32)} (hf : f_X5_lay (I 481) (I 482) x1 x2 x3 = some r0) : q_Ct g m_X5_lay d 0 0 [] [.ref 481, .int x1, .int x2, .int x3] (q_hp (t, r, m, z, N, ext, rx, L) I E) (fun o h' => o = .inl none ∧ h' = q_hp (t, r, m, z, N, ext, rx, L) (q_ws I [(481, r0.1), (482, r0.2)]) (q_ws E [])) := by
  rw [f_X5_lay] at hf
  refine q_Ct_of ok_X5_lay (Nat.le_of_ble_eq_true rfl) ?_ _ rfl rfl
  change q_J g m_X5_lay d 0 0 _ [] _ 0 0 (q_kc (t, r, m, z, N, ext, rx, L) I E 0 [some (.ref 481), some (.int x1), some (.int x2), some (.int x3), none, none] [] [] [])
  refine q_blk 2 [] (c' := q_kc (t, r, m, z, N, ext, rx, L) I E 2 [some (.ref 481), some (.int x1), some (.int x2), some (.int x3), some (.int (0 : Int32)), none] [] [] []) ok_X5_lay rfl q_cn ?_
  obtain ⟨r6, hr6, hf⟩ := q_bd hf
  refine lp_X5_lay_L2_481 (I := q_ws I []) (E := q_ws E []) hd (Nat.le_of_ble_eq_true rfl) (Nat.le_of_ble_eq_true rfl) 4096 hr6 ?_
  refine q_Jmrg (lI' := [(482, r6)]) (lE' := []) (q_mgw rfl rfl) (q_mgw rfl rfl) ?_
  refine q_blf 5 [] (a := q_kc (t, r, m, z, N, ext, rx, L) I E 33 [some (.ref 481), some (.int x1), none, none, none, none] [.int ((I 481) 2), .ref 481] [(482, r6)] []) (b := q_kc (t, r, m, z, N, ext, rx, L) I E 31 [some (.ref 481), some (.int x1), none, none, none, none] [.int ((I 481) 2), .ref 481] [(482, r6)] []) (P := ¬ x1 = (-1 : Int32)) ok_X5_lay rfl q_cn (fun h7 => ?_) (fun h7 => ?_)
  · have hf := q_ip h7 hf
    refine q_blk 3 [] (c' := q_kc (t, r, m, z, N, ext, rx, L) I E 36 [some (.ref 481), some (.int x1), none, none, none, none] [] [(481, (q_up (I 481) 2 (((I 481) 2) + (1 : Int32)))), (482, r6)] []) ok_X5_lay rfl q_cn ?_
    cases hf
    exact q_krv ok_X5_lay rfl rfl (Nat.le_of_ble_eq_true rfl) (Nat.le_of_ble_eq_true rfl) ⟨rfl, q_hpe (q_pdw [481, 482] rfl rfl) (q_pdw [] rfl rfl)⟩
  · have hf := q_in h7 hf
    refine q_blk 4 [] (c' := q_kc (t, r, m, z, N, ext, rx, L) I E 36 [some (.ref 481), some (.int x1), none, none, none, none] [] [(481, (q_up (I 481) 2 (((I 481) 2) + (-1 : Int32)))), (482, r6)] []) ok_X5_lay rfl q_cn ?_
    cases hf
    exact q_krv ok_X5_lay rfl rfl (Nat.le_of_ble_eq_true rfl) (Nat.le_of_ble_eq_true rfl) ⟨rfl, q_hpe (q_pdw [481, 482] rfl rfl) (q_pdw [] rfl rfl)⟩
set_option maxHeartbeats 4000000 in
theorem ct_X2_takeOver_473 {g : q_G} {r : Nat} {m : Nat} {z : Nat} {N : Nat} {ext : Nat → q_Sh} {rx : Nat → Nat → Option Nat} {L : Nat → Nat → Int64} {d : Nat} (hd : 2 ≤ d)  {I : Nat → Nat → Int32} {E : Nat → Nat → Option Nat} {x1 : Int32} {r0 : (Nat → Int32) × (Nat → Int32) × (Nat → Int32) × (Nat → Int32) × (Nat → Int32) × (Nat → Int32) × (Nat → Int32) × (Nat → Int32) × (Nat → Int32) × (Nat → Int32)} (hf : f_X2_takeOver (I 402) (I 473) (I 475) (I 476) (I 477) (I 478) (I 481) (I 482) (I 483) (I 484) (I 485) (I 487) x1 = some r0) : q_Ct g m_X2_takeOver d 0 0 [] [.ref 473, .int x1] (q_hp (0, r, m, z, N, ext, rx, L) I E) (fun o h' => o = .inl none ∧ h' = q_hp (0, r, m, z, N, ext, rx, L) (q_ws I [(473, r0.1), (475, r0.2.1), (476, r0.2.2.1), (478, r0.2.2.2.1), (481, r0.2.2.2.2.1), (482, r0.2.2.2.2.2.1), (483, r0.2.2.2.2.2.2.1), (484, r0.2.2.2.2.2.2.2.1), (485, r0.2.2.2.2.2.2.2.2.1), (487, r0.2.2.2.2.2.2.2.2.2)]) (q_ws E [])) := by
  rw [f_X2_takeOver] at hf
  refine q_Ct_of ok_X2_takeOver (Nat.le_of_ble_eq_true rfl) ?_ _ rfl rfl
  change q_J g m_X2_takeOver d 0 0 _ [] _ 0 0 (q_kc (0, r, m, z, N, ext, rx, L) I E 0 [some (.ref 473), some (.int x1), none, none] [] [] [])
  refine q_blk 3 [] (c' := q_kc (0, r, m, z, N, ext, rx, L) I E 3 [some (.ref 473), some (.int x1), none, none] [.int x1, .ref 474] [] []) ok_X2_takeOver rfl q_cn ?_
  obtain ⟨r1, hr1, hf⟩ := q_bd hf
  refine q_kV (M2 := m_X1_liesInHalf) (As := [.int x1]) (b := 474) (v2 := some (.int (q_bz r1))) ok_X2_takeOver ok_X1_liesInHalf cv_X1_liesInHalf (ct_X1_liesInHalf_474 (d := 1) (Nat.le_refl _) hr1) rfl rfl (Or.inl rfl) rfl rfl rfl rfl (Nat.le_trans (Nat.le_of_ble_eq_true rfl) hd) (Nat.le_of_ble_eq_true rfl) (Nat.le_of_ble_eq_true rfl) (Nat.le_of_ble_eq_true rfl) (fun x hx => absurd hx List.not_mem_nil) (q_nmL0 _) (q_nmS0 _) rfl (pos' := 4) (st' := [.int (q_bz r1)]) (lI' := []) (lE' := []) rfl rfl rfl rfl ?_
  refine q_blf 0 [] (a := q_kc (0, r, m, z, N, ext, rx, L) I E 11 [some (.ref 473), some (.int x1), none, none] [] [] []) (b := q_kc (0, r, m, z, N, ext, rx, L) I E 5 [some (.ref 473), some (.int x1), none, none] [] [] []) (P := (q_bz r1) = 0) ok_X2_takeOver rfl q_cn (fun h2 => ?_) (fun h2 => ?_)
  · have hf := q_ip h2 hf
    cases hf
    exact q_krv ok_X2_takeOver rfl rfl (Nat.le_of_ble_eq_true rfl) (Nat.le_of_ble_eq_true rfl) ⟨rfl, q_hpe (q_pdw [473, 475, 476, 478, 481, 482, 483, 484, 485, 487] rfl rfl) (q_pdw [] rfl rfl)⟩
  · have hf := q_in h2 hf
    refine q_blk 4 [] (c' := q_kc (0, r, m, z, N, ext, rx, L) I E 9 [some (.ref 473), some (.int x1), none, none] [.int (0 : Int32), .int x1, .ref 483] [] []) ok_X2_takeOver rfl q_cn ?_
    obtain ⟨r3, hr3, hf⟩ := q_bd hf
    refine q_kV (M2 := m_X4_add) (As := [.int x1, .int (0 : Int32)]) (b := 483) (v2 := some (.int (q_bz r3.1))) ok_X2_takeOver ok_X4_add cv_X4_add (ct_X4_add_483 (d := 1) (Nat.le_refl _) hr3) rfl rfl (Or.inl rfl) rfl rfl rfl rfl (Nat.le_trans (Nat.le_of_ble_eq_true rfl) hd) (Nat.le_of_ble_eq_true rfl) (Nat.le_of_ble_eq_true rfl) (Nat.le_of_ble_eq_true rfl) (fun x hx => absurd hx List.not_mem_nil) (q_nmL0 _) (q_nmS0 _) rfl (pos' := 10) (st' := [.int (q_bz r3.1)]) (lI' := [(483, r3.2.1), (484, r3.2.2.1), (485, r3.2.2.2)]) (lE' := []) rfl rfl (q_mgw rfl rfl) rfl ?_
    refine q_blf 0 [] (a := q_kc (0, r, m, z, N, ext, rx, L) I E 12 [some (.ref 473), some (.int x1), none, none] [] [(483, r3.2.1), (484, r3.2.2.1), (485, r3.2.2.2)] []) (b := q_kc (0, r, m, z, N, ext, rx, L) I E 11 [some (.ref 473), some (.int x1), none, none] [] [(483, r3.2.1), (484, r3.2.2.1), (485, r3.2.2.2)] []) (P := ¬ (q_bz r3.1) = 0) ok_X2_takeOver rfl q_cn (fun h4 => ?_) (fun h4 => ?_)
    · have hf := q_ip h4 hf
      refine q_blk 3 [] (c' := q_kc (0, r, m, z, N, ext, rx, L) I E 15 [some (.ref 473), some (.int x1), none, none] [.int x1, .ref 474] [(483, r3.2.1), (484, r3.2.2.1), (485, r3.2.2.2)] []) ok_X2_takeOver rfl q_cn ?_
      obtain ⟨r5, hr5, hf⟩ := q_bd hf
      refine q_kV (M2 := m_X1_size) (As := [.int x1]) (b := 474) (v2 := some (.int r5)) ok_X2_takeOver ok_X1_size cv_X1_size (ct_X1_size_474 (d := 1) (Nat.le_refl _) hr5) rfl rfl (Or.inl rfl) rfl rfl rfl rfl (Nat.le_trans (Nat.le_of_ble_eq_true rfl) hd) (Nat.le_of_ble_eq_true rfl) (Nat.le_of_ble_eq_true rfl) (Nat.le_of_ble_eq_true rfl) (fun x hx => absurd hx List.not_mem_nil) (q_nmL0 _) (q_nmS0 _) rfl (pos' := 16) (st' := [.int r5]) (lI' := [(483, r3.2.1), (484, r3.2.2.1), (485, r3.2.2.2)]) (lE' := []) rfl rfl rfl rfl ?_
      refine q_blk 4 [] (c' := q_kc (0, r, m, z, N, ext, rx, L) I E 20 [some (.ref 473), some (.int x1), some (.int r5), none] [.int x1, .ref 474] [(483, r3.2.1), (484, r3.2.2.1), (485, r3.2.2.2)] []) ok_X2_takeOver rfl q_cn ?_
      obtain ⟨r6, hr6, hf⟩ := q_bd hf
      refine q_kV (M2 := m_X1_age) (As := [.int x1]) (b := 474) (v2 := some (.int r6)) ok_X2_takeOver ok_X1_age cv_X1_age (ct_X1_age_474 (d := 1) (Nat.le_refl _) hr6) rfl rfl (Or.inl rfl) rfl rfl rfl rfl (Nat.le_trans (Nat.le_of_ble_eq_true rfl) hd) (Nat.le_of_ble_eq_true rfl) (Nat.le_of_ble_eq_true rfl) (Nat.le_of_ble_eq_true rfl) (fun x hx => absurd hx List.not_mem_nil) (q_nmL0 _) (q_nmS0 _) rfl (pos' := 21) (st' := [.int r6]) (lI' := [(483, r3.2.1), (484, r3.2.2.1), (485, r3.2.2.2)]) (lE' := []) rfl rfl rfl rfl ?_
      refine q_blf 3 [] (a := q_kc (0, r, m, z, N, ext, rx, L) I E 30 [some (.ref 473), some (.int x1), some (.int r5), none] [] [(483, r3.2.1), (484, r3.2.2.1), (485, r3.2.2.2)] []) (b := q_kc (0, r, m, z, N, ext, rx, L) I E 25 [some (.ref 473), some (.int x1), some (.int r5), none] [] [(483, r3.2.1), (484, r3.2.2.1), (485, r3.2.2.2)] []) (P := r6 < ((I 402) 2)) ok_X2_takeOver rfl q_cn (fun h7 => ?_) (fun h7 => ?_)
      · have hf := q_ip h7 hf
        refine q_blf 4 [] (a := q_kc (0, r, m, z, N, ext, rx, L) I E 46 [some (.ref 473), some (.int x1), some (.int r5), some (.int (-1 : Int32))] [] [(483, r3.2.1), (484, r3.2.2.1), (485, r3.2.2.2)] []) (b := q_kc (0, r, m, z, N, ext, rx, L) I E 35 [some (.ref 473), some (.int x1), some (.int r5), some (.int (-1 : Int32))] [] [(483, r3.2.1), (484, r3.2.2.1), (485, r3.2.2.2)] []) (P := ¬ (-1 : Int32) = (-1 : Int32)) ok_X2_takeOver rfl q_cn (fun h8 => ?_) (fun h8 => ?_)
        · have hf := q_ip h8 hf
          refine q_blk 4 [] (c' := q_kc (0, r, m, z, N, ext, rx, L) I E 50 [some (.ref 473), some (.int x1), some (.int r5), some (.int (-1 : Int32))] [.int (-1 : Int32), .int x1, .ref 474] [(483, r3.2.1), (484, r3.2.2.1), (485, r3.2.2.2)] []) ok_X2_takeOver rfl q_cn ?_
          obtain ⟨r9, hr9, hf⟩ := q_bd hf
          refine q_kV (M2 := m_X1_promoteTo) (As := [.int x1, .int (-1 : Int32)]) (b := 474) (v2 := none) ok_X2_takeOver ok_X1_promoteTo cv_X1_promoteTo (ct_X1_promoteTo_474 (d := 1) (Nat.le_refl _) hr9) rfl rfl (Or.inl rfl) rfl rfl rfl rfl (Nat.le_trans (Nat.le_of_ble_eq_true rfl) hd) (Nat.le_of_ble_eq_true rfl) (Nat.le_of_ble_eq_true rfl) (Nat.le_of_ble_eq_true rfl) (fun x hx => absurd hx List.not_mem_nil) (q_nmL0 _) (q_nmS0 _) rfl (pos' := 51) (st' := []) (lI' := [(475, r9.1), (476, r9.2), (483, r3.2.1), (484, r3.2.2.1), (485, r3.2.2.2)]) (lE' := []) rfl rfl (q_mgw rfl rfl) rfl ?_
          refine q_blk 5 [] (c' := q_kc (0, r, m, z, N, ext, rx, L) I E 56 [some (.ref 473), some (.int x1), some (.int r5), some (.int (-1 : Int32))] [.int r5, .int (-1 : Int32), .int x1, .ref 481] [(475, r9.1), (476, r9.2), (483, r3.2.1), (484, r3.2.2.1), (485, r3.2.2.2)] []) ok_X2_takeOver rfl q_cn ?_
          obtain ⟨r10, hr10, hf⟩ := q_bd hf
          refine q_kV (M2 := m_X5_lay) (As := [.int x1, .int (-1 : Int32), .int r5]) (b := 481) (v2 := none) ok_X2_takeOver ok_X5_lay cv_X5_lay (ct_X5_lay_481 (d := 1) (Nat.le_refl _) hr10) rfl rfl (Or.inl rfl) rfl rfl rfl rfl (Nat.le_trans (Nat.le_of_ble_eq_true rfl) hd) (Nat.le_of_ble_eq_true rfl) (Nat.le_of_ble_eq_true rfl) (Nat.le_of_ble_eq_true rfl) (fun x hx => absurd hx List.not_mem_nil) (q_nmL0 _) (q_nmS0 _) rfl (pos' := 57) (st' := []) (lI' := [(475, r9.1), (476, r9.2), (481, r10.1), (482, r10.2), (483, r3.2.1), (484, r3.2.2.1), (485, r3.2.2.2)]) (lE' := []) rfl rfl (q_mgw rfl rfl) rfl ?_
          refine q_blk 6 [] (c' := q_kc (0, r, m, z, N, ext, rx, L) I E 63 [some (.ref 473), some (.int x1), some (.int r5), some (.int (-1 : Int32))] [] [(473, (q_up (I 473) 13 (((I 473) 13) + (1 : Int32)))), (475, r9.1), (476, r9.2), (481, r10.1), (482, r10.2), (483, r3.2.1), (484, r3.2.2.1), (485, r3.2.2.2)] []) ok_X2_takeOver rfl q_cn ?_
          cases hf
          exact q_krv ok_X2_takeOver rfl rfl (Nat.le_of_ble_eq_true rfl) (Nat.le_of_ble_eq_true rfl) ⟨rfl, q_hpe (q_pdw [473, 475, 476, 478, 481, 482, 483, 484, 485, 487] rfl rfl) (q_pdw [] rfl rfl)⟩
        · have hf := q_in h8 hf
          refine q_blk 5 [] (c' := q_kc (0, r, m, z, N, ext, rx, L) I E 40 [some (.ref 473), some (.int x1), some (.int r5), some (.int (-1 : Int32))] [.int ((I 473) 8), .int x1, .ref 474] [(483, r3.2.1), (484, r3.2.2.1), (485, r3.2.2.2)] []) ok_X2_takeOver rfl q_cn ?_
          obtain ⟨r11, hr11, hf⟩ := q_bd hf
          refine q_kV (M2 := m_X1_copyTo) (As := [.int x1, .int ((I 473) 8)]) (b := 474) (v2 := none) ok_X2_takeOver ok_X1_copyTo cv_X1_copyTo (ct_X1_copyTo_474 (d := 1) (Nat.le_refl _) hr11) rfl rfl (Or.inl rfl) rfl rfl rfl rfl (Nat.le_trans (Nat.le_of_ble_eq_true rfl) hd) (Nat.le_of_ble_eq_true rfl) (Nat.le_of_ble_eq_true rfl) (Nat.le_of_ble_eq_true rfl) (fun x hx => absurd hx List.not_mem_nil) (q_nmL0 _) (q_nmS0 _) rfl (pos' := 41) (st' := []) (lI' := [(476, r11.1), (478, r11.2), (483, r3.2.1), (484, r3.2.2.1), (485, r3.2.2.2)]) (lE' := []) rfl rfl (q_mgw rfl rfl) rfl ?_
          refine q_blk 3 [] (c' := q_kc (0, r, m, z, N, ext, rx, L) I E 44 [some (.ref 473), some (.int x1), some (.int r5), some (.int (-1 : Int32))] [.int r5, .int x1, .ref 473] [(476, r11.1), (478, r11.2), (483, r3.2.1), (484, r3.2.2.1), (485, r3.2.2.2)] []) ok_X2_takeOver rfl q_cn ?_
          obtain ⟨r12, hr12, hf⟩ := q_bd hf
          refine q_kV (M2 := m_X2_layInRow) (As := [.int x1, .int r5]) (b := 473) (v2 := none) ok_X2_takeOver ok_X2_layInRow cv_X2_layInRow (ct_X2_layInRow_473 (d := 1) (Nat.le_refl _) hr12) rfl rfl (Or.inl rfl) rfl rfl rfl rfl (Nat.le_trans (Nat.le_of_ble_eq_true rfl) hd) (Nat.le_of_ble_eq_true rfl) (Nat.le_of_ble_eq_true rfl) (Nat.le_of_ble_eq_true rfl) (fun x hx => absurd hx List.not_mem_nil) (q_nmL0 _) (q_nmS0 _) rfl (pos' := 45) (st' := []) (lI' := [(473, r12.1), (476, r11.1), (478, r11.2), (483, r3.2.1), (484, r3.2.2.1), (485, r3.2.2.2), (487, r12.2)]) (lE' := []) rfl rfl (q_mgw rfl rfl) rfl ?_
          refine q_blk 1 [] (c' := q_kc (0, r, m, z, N, ext, rx, L) I E 63 [some (.ref 473), some (.int x1), some (.int r5), some (.int (-1 : Int32))] [] [(473, r12.1), (476, r11.1), (478, r11.2), (483, r3.2.1), (484, r3.2.2.1), (485, r3.2.2.2), (487, r12.2)] []) ok_X2_takeOver rfl q_cn ?_
          cases hf
          exact q_krv ok_X2_takeOver rfl rfl (Nat.le_of_ble_eq_true rfl) (Nat.le_of_ble_eq_true rfl) ⟨rfl, q_hpe (q_pdw [473, 475, 476, 478, 481, 482, 483, 484, 485, 487] rfl rfl) (q_pdw [] rfl rfl)⟩
      · have hf := q_in h7 hf
        refine q_blk 3 [] (c' := q_kc (0, r, m, z, N, ext, rx, L) I E 28 [some (.ref 473), some (.int x1), some (.int r5), none] [.int r5, .ref 481] [(483, r3.2.1), (484, r3.2.2.1), (485, r3.2.2.2)] []) ok_X2_takeOver rfl q_cn ?_
        obtain ⟨r13, hr13, hf⟩ := q_bd hf
        refine q_kV (M2 := m_X5_gapFor) (As := [.int r5]) (b := 481) (v2 := some (.int r13)) ok_X2_takeOver ok_X5_gapFor cv_X5_gapFor (ct_X5_gapFor_481 (d := 1) (Nat.le_refl _) hr13) rfl rfl (Or.inl rfl) rfl rfl rfl rfl (Nat.le_trans (Nat.le_of_ble_eq_true rfl) hd) (Nat.le_of_ble_eq_true rfl) (Nat.le_of_ble_eq_true rfl) (Nat.le_of_ble_eq_true rfl) (fun x hx => absurd hx List.not_mem_nil) (q_nmL0 _) (q_nmS0 _) rfl (pos' := 29) (st' := [.int r13]) (lI' := [(483, r3.2.1), (484, r3.2.2.1), (485, r3.2.2.2)]) (lE' := []) rfl rfl rfl rfl ?_
        refine q_blf 4 [] (a := q_kc (0, r, m, z, N, ext, rx, L) I E 46 [some (.ref 473), some (.int x1), some (.int r5), some (.int r13)] [] [(483, r3.2.1), (484, r3.2.2.1), (485, r3.2.2.2)] []) (b := q_kc (0, r, m, z, N, ext, rx, L) I E 35 [some (.ref 473), some (.int x1), some (.int r5), some (.int r13)] [] [(483, r3.2.1), (484, r3.2.2.1), (485, r3.2.2.2)] []) (P := ¬ r13 = (-1 : Int32)) ok_X2_takeOver rfl q_cn (fun h14 => ?_) (fun h14 => ?_)
        · have hf := q_ip h14 hf
          refine q_blk 4 [] (c' := q_kc (0, r, m, z, N, ext, rx, L) I E 50 [some (.ref 473), some (.int x1), some (.int r5), some (.int r13)] [.int r13, .int x1, .ref 474] [(483, r3.2.1), (484, r3.2.2.1), (485, r3.2.2.2)] []) ok_X2_takeOver rfl q_cn ?_
          obtain ⟨r15, hr15, hf⟩ := q_bd hf
          refine q_kV (M2 := m_X1_promoteTo) (As := [.int x1, .int r13]) (b := 474) (v2 := none) ok_X2_takeOver ok_X1_promoteTo cv_X1_promoteTo (ct_X1_promoteTo_474 (d := 1) (Nat.le_refl _) hr15) rfl rfl (Or.inl rfl) rfl rfl rfl rfl (Nat.le_trans (Nat.le_of_ble_eq_true rfl) hd) (Nat.le_of_ble_eq_true rfl) (Nat.le_of_ble_eq_true rfl) (Nat.le_of_ble_eq_true rfl) (fun x hx => absurd hx List.not_mem_nil) (q_nmL0 _) (q_nmS0 _) rfl (pos' := 51) (st' := []) (lI' := [(475, r15.1), (476, r15.2), (483, r3.2.1), (484, r3.2.2.1), (485, r3.2.2.2)]) (lE' := []) rfl rfl (q_mgw rfl rfl) rfl ?_
          refine q_blk 5 [] (c' := q_kc (0, r, m, z, N, ext, rx, L) I E 56 [some (.ref 473), some (.int x1), some (.int r5), some (.int r13)] [.int r5, .int r13, .int x1, .ref 481] [(475, r15.1), (476, r15.2), (483, r3.2.1), (484, r3.2.2.1), (485, r3.2.2.2)] []) ok_X2_takeOver rfl q_cn ?_
          obtain ⟨r16, hr16, hf⟩ := q_bd hf
          refine q_kV (M2 := m_X5_lay) (As := [.int x1, .int r13, .int r5]) (b := 481) (v2 := none) ok_X2_takeOver ok_X5_lay cv_X5_lay (ct_X5_lay_481 (d := 1) (Nat.le_refl _) hr16) rfl rfl (Or.inl rfl) rfl rfl rfl rfl (Nat.le_trans (Nat.le_of_ble_eq_true rfl) hd) (Nat.le_of_ble_eq_true rfl) (Nat.le_of_ble_eq_true rfl) (Nat.le_of_ble_eq_true rfl) (fun x hx => absurd hx List.not_mem_nil) (q_nmL0 _) (q_nmS0 _) rfl (pos' := 57) (st' := []) (lI' := [(475, r15.1), (476, r15.2), (481, r16.1), (482, r16.2), (483, r3.2.1), (484, r3.2.2.1), (485, r3.2.2.2)]) (lE' := []) rfl rfl (q_mgw rfl rfl) rfl ?_
          refine q_blk 6 [] (c' := q_kc (0, r, m, z, N, ext, rx, L) I E 63 [some (.ref 473), some (.int x1), some (.int r5), some (.int r13)] [] [(473, (q_up (I 473) 13 (((I 473) 13) + (1 : Int32)))), (475, r15.1), (476, r15.2), (481, r16.1), (482, r16.2), (483, r3.2.1), (484, r3.2.2.1), (485, r3.2.2.2)] []) ok_X2_takeOver rfl q_cn ?_
          cases hf
          exact q_krv ok_X2_takeOver rfl rfl (Nat.le_of_ble_eq_true rfl) (Nat.le_of_ble_eq_true rfl) ⟨rfl, q_hpe (q_pdw [473, 475, 476, 478, 481, 482, 483, 484, 485, 487] rfl rfl) (q_pdw [] rfl rfl)⟩
        · have hf := q_in h14 hf
          refine q_blk 5 [] (c' := q_kc (0, r, m, z, N, ext, rx, L) I E 40 [some (.ref 473), some (.int x1), some (.int r5), some (.int r13)] [.int ((I 473) 8), .int x1, .ref 474] [(483, r3.2.1), (484, r3.2.2.1), (485, r3.2.2.2)] []) ok_X2_takeOver rfl q_cn ?_
          obtain ⟨r17, hr17, hf⟩ := q_bd hf
          refine q_kV (M2 := m_X1_copyTo) (As := [.int x1, .int ((I 473) 8)]) (b := 474) (v2 := none) ok_X2_takeOver ok_X1_copyTo cv_X1_copyTo (ct_X1_copyTo_474 (d := 1) (Nat.le_refl _) hr17) rfl rfl (Or.inl rfl) rfl rfl rfl rfl (Nat.le_trans (Nat.le_of_ble_eq_true rfl) hd) (Nat.le_of_ble_eq_true rfl) (Nat.le_of_ble_eq_true rfl) (Nat.le_of_ble_eq_true rfl) (fun x hx => absurd hx List.not_mem_nil) (q_nmL0 _) (q_nmS0 _) rfl (pos' := 41) (st' := []) (lI' := [(476, r17.1), (478, r17.2), (483, r3.2.1), (484, r3.2.2.1), (485, r3.2.2.2)]) (lE' := []) rfl rfl (q_mgw rfl rfl) rfl ?_
          refine q_blk 3 [] (c' := q_kc (0, r, m, z, N, ext, rx, L) I E 44 [some (.ref 473), some (.int x1), some (.int r5), some (.int r13)] [.int r5, .int x1, .ref 473] [(476, r17.1), (478, r17.2), (483, r3.2.1), (484, r3.2.2.1), (485, r3.2.2.2)] []) ok_X2_takeOver rfl q_cn ?_
          obtain ⟨r18, hr18, hf⟩ := q_bd hf
          refine q_kV (M2 := m_X2_layInRow) (As := [.int x1, .int r5]) (b := 473) (v2 := none) ok_X2_takeOver ok_X2_layInRow cv_X2_layInRow (ct_X2_layInRow_473 (d := 1) (Nat.le_refl _) hr18) rfl rfl (Or.inl rfl) rfl rfl rfl rfl (Nat.le_trans (Nat.le_of_ble_eq_true rfl) hd) (Nat.le_of_ble_eq_true rfl) (Nat.le_of_ble_eq_true rfl) (Nat.le_of_ble_eq_true rfl) (fun x hx => absurd hx List.not_mem_nil) (q_nmL0 _) (q_nmS0 _) rfl (pos' := 45) (st' := []) (lI' := [(473, r18.1), (476, r17.1), (478, r17.2), (483, r3.2.1), (484, r3.2.2.1), (485, r3.2.2.2), (487, r18.2)]) (lE' := []) rfl rfl (q_mgw rfl rfl) rfl ?_
          refine q_blk 1 [] (c' := q_kc (0, r, m, z, N, ext, rx, L) I E 63 [some (.ref 473), some (.int x1), some (.int r5), some (.int r13)] [] [(473, r18.1), (476, r17.1), (478, r17.2), (483, r3.2.1), (484, r3.2.2.1), (485, r3.2.2.2), (487, r18.2)] []) ok_X2_takeOver rfl q_cn ?_
          cases hf
          exact q_krv ok_X2_takeOver rfl rfl (Nat.le_of_ble_eq_true rfl) (Nat.le_of_ble_eq_true rfl) ⟨rfl, q_hpe (q_pdw [473, 475, 476, 478, 481, 482, 483, 484, 485, 487] rfl rfl) (q_pdw [] rfl rfl)⟩
    · have hf := q_in h4 hf
      cases hf
      exact q_krv ok_X2_takeOver rfl rfl (Nat.le_of_ble_eq_true rfl) (Nat.le_of_ble_eq_true rfl) ⟨rfl, q_hpe (q_pdw [473, 475, 476, 478, 481, 482, 483, 484, 485, 487] rfl rfl) (q_pdw [] rfl rfl)⟩
set_option maxHeartbeats 4000000 in
theorem ct_X5_at_481 {g : q_G} {t : Nat} {r : Nat} {m : Nat} {z : Nat} {N : Nat} {ext : Nat → q_Sh} {rx : Nat → Nat → Option Nat} {L : Nat → Nat → Int64} {d : Nat} (hd : 1 ≤ d)  {I : Nat → Nat → Int32} {E : Nat → Nat → Option Nat} {x1 : Int32} {r0 : Int32} (hf : f_X5_at (I 481) (I 482) x1 = some r0) : q_Ct g m_X5_at d 0 0 [] [.ref 481, .int x1] (q_hp (t, r, m, z, N, ext, rx, L) I E) (fun o h' => o = .inl (some (.int r0)) ∧ h' = q_hp (t, r, m, z, N, ext, rx, L) (q_ws I []) (q_ws E [])) := by
  rw [f_X5_at] at hf
  refine q_Ct_of ok_X5_at (Nat.le_of_ble_eq_true rfl) ?_ _ rfl rfl
  change q_J g m_X5_at d 0 0 _ [] _ 0 0 (q_kc (t, r, m, z, N, ext, rx, L) I E 0 [some (.ref 481), some (.int x1)] [] [] [])
  refine q_blf 1 [] (a := q_kc (t, r, m, z, N, ext, rx, L) I E 14 [some (.ref 481), some (.int x1)] [] [] []) (b := q_kc (t, r, m, z, N, ext, rx, L) I E 2 [some (.ref 481), some (.int x1)] [] [] []) (P := x1 < 0) ok_X5_at rfl q_cn (fun h1 => ?_) (fun h1 => ?_)
  · have hf := q_ip h1 hf
    refine q_blk 1 [] (c' := q_kc (t, r, m, z, N, ext, rx, L) I E 15 [some (.ref 481), some (.int x1)] [.int (-1 : Int32)] [] []) ok_X5_at rfl q_cn ?_
    cases hf
    exact q_kri ok_X5_at rfl rfl rfl (Nat.le_of_ble_eq_true rfl) (Nat.le_of_ble_eq_true rfl) ⟨rfl, q_hpe (q_pdw [] rfl rfl) (q_pdw [] rfl rfl)⟩
  · have hf := q_in h1 hf
    refine q_blf 3 [] (a := q_kc (t, r, m, z, N, ext, rx, L) I E 14 [some (.ref 481), some (.int x1)] [] [] []) (b := q_kc (t, r, m, z, N, ext, rx, L) I E 6 [some (.ref 481), some (.int x1)] [] [] []) (P := ((I 481) 1) ≤ x1) ok_X5_at rfl q_cn (fun h2 => ?_) (fun h2 => ?_)
    · have hf := q_ip h2 hf
      refine q_blk 1 [] (c' := q_kc (t, r, m, z, N, ext, rx, L) I E 15 [some (.ref 481), some (.int x1)] [.int (-1 : Int32)] [] []) ok_X5_at rfl q_cn ?_
      cases hf
      exact q_kri ok_X5_at rfl rfl rfl (Nat.le_of_ble_eq_true rfl) (Nat.le_of_ble_eq_true rfl) ⟨rfl, q_hpe (q_pdw [] rfl rfl) (q_pdw [] rfl rfl)⟩
    · have hf := q_in h2 hf
      refine q_blf 2 [] (a := q_kc (t, r, m, z, N, ext, rx, L) I E 14 [some (.ref 481), some (.int x1)] [] [] []) (b := q_kc (t, r, m, z, N, ext, rx, L) I E 9 [some (.ref 481), some (.int x1)] [] [] []) (P := (64 : Int32) ≤ x1) ok_X5_at rfl q_cn (fun h3 => ?_) (fun h3 => ?_)
      · have hf := q_ip h3 hf
        refine q_blk 1 [] (c' := q_kc (t, r, m, z, N, ext, rx, L) I E 15 [some (.ref 481), some (.int x1)] [.int (-1 : Int32)] [] []) ok_X5_at rfl q_cn ?_
        cases hf
        exact q_kri ok_X5_at rfl rfl rfl (Nat.le_of_ble_eq_true rfl) (Nat.le_of_ble_eq_true rfl) ⟨rfl, q_hpe (q_pdw [] rfl rfl) (q_pdw [] rfl rfl)⟩
      · have hf := q_in h3 hf
        obtain ⟨j4, hj4, hf⟩ := q_bd hf
        refine q_blk 5 [j4] (c' := q_kc (t, r, m, z, N, ext, rx, L) I E 15 [some (.ref 481), some (.int x1)] [.int ((I 482) j4)] [] []) ok_X5_at rfl (q_cc hj4 q_cn) ?_
        cases hf
        exact q_kri ok_X5_at rfl rfl rfl (Nat.le_of_ble_eq_true rfl) (Nat.le_of_ble_eq_true rfl) ⟨rfl, q_hpe (q_pdw [] rfl rfl) (q_pdw [] rfl rfl)⟩
set_option maxHeartbeats 4000000 in
theorem ct_X1_place_474 {g : q_G} {t : Nat} {r : Nat} {m : Nat} {z : Nat} {N : Nat} {ext : Nat → q_Sh} {rx : Nat → Nat → Option Nat} {L : Nat → Nat → Int64} {d : Nat} (hd : 1 ≤ d)  {I : Nat → Nat → Int32} {E : Nat → Nat → Option Nat} {x1 : Int32} {r0 : Int32} (hf : f_X1_place (I 476) x1 = some r0) : q_Ct g m_X1_place d 0 0 [] [.ref 474, .int x1] (q_hp (t, r, m, z, N, ext, rx, L) I E) (fun o h' => o = .inl (some (.int r0)) ∧ h' = q_hp (t, r, m, z, N, ext, rx, L) (q_ws I []) (q_ws E [])) := by
  rw [f_X1_place] at hf
  refine q_Ct_of ok_X1_place (Nat.le_of_ble_eq_true rfl) ?_ _ rfl rfl
  change q_J g m_X1_place d 0 0 _ [] _ 0 0 (q_kc (t, r, m, z, N, ext, rx, L) I E 0 [some (.ref 474), some (.int x1)] [] [] [])
  refine q_blf 1 [] (a := q_kc (t, r, m, z, N, ext, rx, L) I E 10 [some (.ref 474), some (.int x1)] [] [] []) (b := q_kc (t, r, m, z, N, ext, rx, L) I E 2 [some (.ref 474), some (.int x1)] [] [] []) (P := x1 < 0) ok_X1_place rfl q_cn (fun h1 => ?_) (fun h1 => ?_)
  · have hf := q_ip h1 hf
    refine q_blk 1 [] (c' := q_kc (t, r, m, z, N, ext, rx, L) I E 11 [some (.ref 474), some (.int x1)] [.int (0 : Int32)] [] []) ok_X1_place rfl q_cn ?_
    cases hf
    exact q_kri ok_X1_place rfl rfl rfl (Nat.le_of_ble_eq_true rfl) (Nat.le_of_ble_eq_true rfl) ⟨rfl, q_hpe (q_pdw [] rfl rfl) (q_pdw [] rfl rfl)⟩
  · have hf := q_in h1 hf
    refine q_blf 2 [] (a := q_kc (t, r, m, z, N, ext, rx, L) I E 10 [some (.ref 474), some (.int x1)] [] [] []) (b := q_kc (t, r, m, z, N, ext, rx, L) I E 5 [some (.ref 474), some (.int x1)] [] [] []) (P := (128 : Int32) ≤ x1) ok_X1_place rfl q_cn (fun h2 => ?_) (fun h2 => ?_)
    · have hf := q_ip h2 hf
      refine q_blk 1 [] (c' := q_kc (t, r, m, z, N, ext, rx, L) I E 11 [some (.ref 474), some (.int x1)] [.int (0 : Int32)] [] []) ok_X1_place rfl q_cn ?_
      cases hf
      exact q_kri ok_X1_place rfl rfl rfl (Nat.le_of_ble_eq_true rfl) (Nat.le_of_ble_eq_true rfl) ⟨rfl, q_hpe (q_pdw [] rfl rfl) (q_pdw [] rfl rfl)⟩
    · have hf := q_in h2 hf
      obtain ⟨j3, hj3, hf⟩ := q_bd hf
      refine q_blk 5 [j3] (c' := q_kc (t, r, m, z, N, ext, rx, L) I E 11 [some (.ref 474), some (.int x1)] [.int ((I 476) j3)] [] []) ok_X1_place rfl (q_cc hj3 q_cn) ?_
      cases hf
      exact q_kri ok_X1_place rfl rfl rfl (Nat.le_of_ble_eq_true rfl) (Nat.le_of_ble_eq_true rfl) ⟨rfl, q_hpe (q_pdw [] rfl rfl) (q_pdw [] rfl rfl)⟩
set_option maxHeartbeats 4000000 in
theorem ct_X2_loftBaleFrom_473 {g : q_G} {r : Nat} {m : Nat} {z : Nat} {N : Nat} {ext : Nat → q_Sh} {rx : Nat → Nat → Option Nat} {L : Nat → Nat → Int64} {d : Nat} (hd : 2 ≤ d)  {I : Nat → Nat → Int32} {E : Nat → Nat → Option Nat} {x1 : Int32} {r0 : Int32} (hf : f_X2_loftBaleFrom (I 476) (I 481) (I 482) x1 = some r0) : q_Ct g m_X2_loftBaleFrom d 0 0 [] [.ref 473, .int x1] (q_hp (0, r, m, z, N, ext, rx, L) I E) (fun o h' => o = .inl (some (.int r0)) ∧ h' = q_hp (0, r, m, z, N, ext, rx, L) (q_ws I []) (q_ws E [])) := by
  rw [f_X2_loftBaleFrom] at hf
  refine q_Ct_of ok_X2_loftBaleFrom (Nat.le_of_ble_eq_true rfl) ?_ _ rfl rfl
  change q_J g m_X2_loftBaleFrom d 0 0 _ [] _ 0 0 (q_kc (0, r, m, z, N, ext, rx, L) I E 0 [some (.ref 473), some (.int x1), none] [] [] [])
  refine q_blk 3 [] (c' := q_kc (0, r, m, z, N, ext, rx, L) I E 3 [some (.ref 473), some (.int x1), none] [.int x1, .ref 481] [] []) ok_X2_loftBaleFrom rfl q_cn ?_
  obtain ⟨r1, hr1, hf⟩ := q_bd hf
  refine q_kV (M2 := m_X5_at) (As := [.int x1]) (b := 481) (v2 := some (.int r1)) ok_X2_loftBaleFrom ok_X5_at cv_X5_at (ct_X5_at_481 (d := 1) (Nat.le_refl _) hr1) rfl rfl (Or.inl rfl) rfl rfl rfl rfl (Nat.le_trans (Nat.le_of_ble_eq_true rfl) hd) (Nat.le_of_ble_eq_true rfl) (Nat.le_of_ble_eq_true rfl) (Nat.le_of_ble_eq_true rfl) (fun x hx => absurd hx List.not_mem_nil) (q_nmL0 _) (q_nmS0 _) rfl (pos' := 4) (st' := [.int r1]) (lI' := []) (lE' := []) rfl rfl rfl rfl ?_
  refine q_blf 3 [] (a := q_kc (0, r, m, z, N, ext, rx, L) I E 16 [some (.ref 473), some (.int x1), some (.int r1)] [] [] []) (b := q_kc (0, r, m, z, N, ext, rx, L) I E 8 [some (.ref 473), some (.int x1), some (.int r1)] [] [] []) (P := r1 = (-1 : Int32)) ok_X2_loftBaleFrom rfl q_cn (fun h2 => ?_) (fun h2 => ?_)
  · have hf := q_ip h2 hf
    refine q_blk 1 [] (c' := q_kc (0, r, m, z, N, ext, rx, L) I E 17 [some (.ref 473), some (.int x1), some (.int r1)] [.int (-1 : Int32)] [] []) ok_X2_loftBaleFrom rfl q_cn ?_
    cases hf
    exact q_kri ok_X2_loftBaleFrom rfl rfl rfl (Nat.le_of_ble_eq_true rfl) (Nat.le_of_ble_eq_true rfl) ⟨rfl, q_hpe (q_pdw [] rfl rfl) (q_pdw [] rfl rfl)⟩
  · have hf := q_in h2 hf
    refine q_blk 3 [] (c' := q_kc (0, r, m, z, N, ext, rx, L) I E 11 [some (.ref 473), some (.int x1), some (.int r1)] [.int r1, .ref 474] [] []) ok_X2_loftBaleFrom rfl q_cn ?_
    obtain ⟨r3, hr3, hf⟩ := q_bd hf
    refine q_kV (M2 := m_X1_place) (As := [.int r1]) (b := 474) (v2 := some (.int r3)) ok_X2_loftBaleFrom ok_X1_place cv_X1_place (ct_X1_place_474 (d := 1) (Nat.le_refl _) hr3) rfl rfl (Or.inl rfl) rfl rfl rfl rfl (Nat.le_trans (Nat.le_of_ble_eq_true rfl) hd) (Nat.le_of_ble_eq_true rfl) (Nat.le_of_ble_eq_true rfl) (Nat.le_of_ble_eq_true rfl) (fun x hx => absurd hx List.not_mem_nil) (q_nmL0 _) (q_nmS0 _) rfl (pos' := 12) (st' := [.int r3]) (lI' := []) (lE' := []) rfl rfl rfl rfl ?_
    refine q_blf 1 [] (a := q_kc (0, r, m, z, N, ext, rx, L) I E 16 [some (.ref 473), some (.int x1), some (.int r1)] [] [] []) (b := q_kc (0, r, m, z, N, ext, rx, L) I E 14 [some (.ref 473), some (.int x1), some (.int r1)] [] [] []) (P := ¬ r3 = x1) ok_X2_loftBaleFrom rfl q_cn (fun h4 => ?_) (fun h4 => ?_)
    · have hf := q_ip h4 hf
      refine q_blk 1 [] (c' := q_kc (0, r, m, z, N, ext, rx, L) I E 17 [some (.ref 473), some (.int x1), some (.int r1)] [.int (-1 : Int32)] [] []) ok_X2_loftBaleFrom rfl q_cn ?_
      cases hf
      exact q_kri ok_X2_loftBaleFrom rfl rfl rfl (Nat.le_of_ble_eq_true rfl) (Nat.le_of_ble_eq_true rfl) ⟨rfl, q_hpe (q_pdw [] rfl rfl) (q_pdw [] rfl rfl)⟩
    · have hf := q_in h4 hf
      refine q_blk 2 [] (c' := q_kc (0, r, m, z, N, ext, rx, L) I E 17 [some (.ref 473), some (.int x1), some (.int r1)] [.int r1] [] []) ok_X2_loftBaleFrom rfl q_cn ?_
      cases hf
      exact q_kri ok_X2_loftBaleFrom rfl rfl rfl (Nat.le_of_ble_eq_true rfl) (Nat.le_of_ble_eq_true rfl) ⟨rfl, q_hpe (q_pdw [] rfl rfl) (q_pdw [] rfl rfl)⟩
set_option maxHeartbeats 4000000 in
theorem ct_X1_ropes_474 {g : q_G} {t : Nat} {r : Nat} {m : Nat} {z : Nat} {N : Nat} {ext : Nat → q_Sh} {rx : Nat → Nat → Option Nat} {L : Nat → Nat → Int64} {d : Nat} (hd : 1 ≤ d)  {I : Nat → Nat → Int32} {E : Nat → Nat → Option Nat} {x1 : Int32} {r0 : Int32} (hf : f_X1_ropes (I 479) x1 = some r0) : q_Ct g m_X1_ropes d 0 0 [] [.ref 474, .int x1] (q_hp (t, r, m, z, N, ext, rx, L) I E) (fun o h' => o = .inl (some (.int r0)) ∧ h' = q_hp (t, r, m, z, N, ext, rx, L) (q_ws I []) (q_ws E [])) := by
  rw [f_X1_ropes] at hf
  refine q_Ct_of ok_X1_ropes (Nat.le_of_ble_eq_true rfl) ?_ _ rfl rfl
  change q_J g m_X1_ropes d 0 0 _ [] _ 0 0 (q_kc (t, r, m, z, N, ext, rx, L) I E 0 [some (.ref 474), some (.int x1)] [] [] [])
  refine q_blf 1 [] (a := q_kc (t, r, m, z, N, ext, rx, L) I E 10 [some (.ref 474), some (.int x1)] [] [] []) (b := q_kc (t, r, m, z, N, ext, rx, L) I E 2 [some (.ref 474), some (.int x1)] [] [] []) (P := x1 < 0) ok_X1_ropes rfl q_cn (fun h1 => ?_) (fun h1 => ?_)
  · have hf := q_ip h1 hf
    refine q_blk 1 [] (c' := q_kc (t, r, m, z, N, ext, rx, L) I E 11 [some (.ref 474), some (.int x1)] [.int (0 : Int32)] [] []) ok_X1_ropes rfl q_cn ?_
    cases hf
    exact q_kri ok_X1_ropes rfl rfl rfl (Nat.le_of_ble_eq_true rfl) (Nat.le_of_ble_eq_true rfl) ⟨rfl, q_hpe (q_pdw [] rfl rfl) (q_pdw [] rfl rfl)⟩
  · have hf := q_in h1 hf
    refine q_blf 2 [] (a := q_kc (t, r, m, z, N, ext, rx, L) I E 10 [some (.ref 474), some (.int x1)] [] [] []) (b := q_kc (t, r, m, z, N, ext, rx, L) I E 5 [some (.ref 474), some (.int x1)] [] [] []) (P := (128 : Int32) ≤ x1) ok_X1_ropes rfl q_cn (fun h2 => ?_) (fun h2 => ?_)
    · have hf := q_ip h2 hf
      refine q_blk 1 [] (c' := q_kc (t, r, m, z, N, ext, rx, L) I E 11 [some (.ref 474), some (.int x1)] [.int (0 : Int32)] [] []) ok_X1_ropes rfl q_cn ?_
      cases hf
      exact q_kri ok_X1_ropes rfl rfl rfl (Nat.le_of_ble_eq_true rfl) (Nat.le_of_ble_eq_true rfl) ⟨rfl, q_hpe (q_pdw [] rfl rfl) (q_pdw [] rfl rfl)⟩
    · have hf := q_in h2 hf
      obtain ⟨j3, hj3, hf⟩ := q_bd hf
      refine q_blk 5 [j3] (c' := q_kc (t, r, m, z, N, ext, rx, L) I E 11 [some (.ref 474), some (.int x1)] [.int ((I 479) j3)] [] []) ok_X1_ropes rfl (q_cc hj3 q_cn) ?_
      cases hf
      exact q_kri ok_X1_ropes rfl rfl rfl (Nat.le_of_ble_eq_true rfl) (Nat.le_of_ble_eq_true rfl) ⟨rfl, q_hpe (q_pdw [] rfl rfl) (q_pdw [] rfl rfl)⟩
