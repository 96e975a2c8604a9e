set_option maxHeartbeats 4000000 in
theorem ct_X1_copyTo_474 {g : q_G} {t : Nat} {r : Nat} {m : Nat} {z : Nat} {N : Nat} {ext : Nat → q_Sh} {rx : Nat → Nat → Option Nat} {L : Nat → Nat → Int64} {d : Nat} (hd : 1 ≤ d)  {I : Nat → Nat → Int32} {E : Nat → Nat → Option Nat} {x1 : Int32} {x2 : Int32} {r0 : (Nat → Int32) × (Nat → Int32)} (hf : f_X1_copyTo (I 476) (I 478) x1 x2 = some r0) : q_Ct g m_X1_copyTo d 0 0 [] [.ref 474, .int x1, .int x2] (q_hp (t, r, m, z, N, ext, rx, L) I E) (fun o h' => o = .inl none ∧ h' = q_hp (t, r, m, z, N, ext, rx, L) (q_ws I [(476, r0.1), (478, r0.2)]) (q_ws E [])) := by
  rw [f_X1_copyTo] at hf
  refine q_Ct_of ok_X1_copyTo (Nat.le_of_ble_eq_true rfl) ?_ _ rfl rfl
  change q_J g m_X1_copyTo d 0 0 _ [] _ 0 0 (q_kc (t, r, m, z, N, ext, rx, L) I E 0 [some (.ref 474), some (.int x1), some (.int x2)] [] [] [])
  refine q_blf 1 [] (a := q_kc (t, r, m, z, N, ext, rx, L) I E 18 [some (.ref 474), some (.int x1), some (.int x2)] [] [] []) (b := q_kc (t, r, m, z, N, ext, rx, L) I E 2 [some (.ref 474), some (.int x1), some (.int x2)] [] [] []) (P := x1 < 0) ok_X1_copyTo rfl q_cn (fun h1 => ?_) (fun h1 => ?_)
  · have hf := q_ip h1 hf
    cases hf
    exact q_krv ok_X1_copyTo rfl rfl (Nat.le_of_ble_eq_true rfl) (Nat.le_of_ble_eq_true rfl) ⟨rfl, q_hpe (q_fin [476, 478] rfl) (q_fin [] rfl)⟩
  · have hf := q_in h1 hf
    refine q_blf 2 [] (a := q_kc (t, r, m, z, N, ext, rx, L) I E 18 [some (.ref 474), some (.int x1), some (.int x2)] [] [] []) (b := q_kc (t, r, m, z, N, ext, rx, L) I E 5 [some (.ref 474), some (.int x1), some (.int x2)] [] [] []) (P := (128 : Int32) ≤ x1) ok_X1_copyTo rfl q_cn (fun h2 => ?_) (fun h2 => ?_)
    · have hf := q_ip h2 hf
      cases hf
      exact q_krv ok_X1_copyTo rfl rfl (Nat.le_of_ble_eq_true rfl) (Nat.le_of_ble_eq_true rfl) ⟨rfl, q_hpe (q_fin [476, 478] rfl) (q_fin [] rfl)⟩
    · have hf := q_in h2 hf
      obtain ⟨j3, hj3, hf⟩ := q_bd hf
      obtain ⟨j4, hj4, hf⟩ := q_bd hf
      obtain ⟨j5, hj5, hf⟩ := q_bd hf
      refine q_blk 13 [j3, j4, j5] (c' := q_kc (t, r, m, z, N, ext, rx, L) I E 18 [some (.ref 474), some (.int x1), some (.int x2)] [] [(476, (q_up (I 476) j3 x2)), (478, (q_up (I 478) j5 (((I 478) j4) + (1 : Int32))))] []) ok_X1_copyTo rfl (q_cc hj5 (q_cc hj4 (q_cc hj3 q_cn))) ?_
      cases hf
      exact q_krv ok_X1_copyTo rfl rfl (Nat.le_of_ble_eq_true rfl) (Nat.le_of_ble_eq_true rfl) ⟨rfl, q_hpe (q_fin [476, 478] rfl) (q_fin [] rfl)⟩
set_option maxHeartbeats 4000000 in
theorem ct_X2_layInRow_473 {g : q_G} {t : Nat} {r : Nat} {m : Nat} {z : Nat} {N : Nat} {ext : Nat → q_Sh} {rx : Nat → Nat → Option Nat} {L : Nat → Nat → Int64} {d : Nat} (hd : 1 ≤ d)  {I : Nat → Nat → Int32} {E : Nat → Nat → Option Nat} {x1 : Int32} {x2 : Int32} {r0 : (Nat → Int32) × (Nat → Int32)} (hf : f_X2_layInRow (I 473) (I 487) x1 x2 = some r0) : q_Ct g m_X2_layInRow d 0 0 [] [.ref 473, .int x1, .int x2] (q_hp (t, r, m, z, N, ext, rx, L) I E) (fun o h' => o = .inl none ∧ h' = q_hp (t, r, m, z, N, ext, rx, L) (q_ws I [(473, r0.1), (487, r0.2)]) (q_ws E [])) := by
  rw [f_X2_layInRow] at hf
  refine q_Ct_of ok_X2_layInRow (Nat.le_of_ble_eq_true rfl) ?_ _ rfl rfl
  change q_J g m_X2_layInRow d 0 0 _ [] _ 0 0 (q_kc (t, r, m, z, N, ext, rx, L) I E 0 [some (.ref 473), some (.int x1), some (.int x2)] [] [] [])
  refine q_blf 2 [] (a := q_kc (t, r, m, z, N, ext, rx, L) I E 25 [some (.ref 473), some (.int x1), some (.int x2)] [] [] []) (b := q_kc (t, r, m, z, N, ext, rx, L) I E 3 [some (.ref 473), some (.int x1), some (.int x2)] [] [] []) (P := ((I 473) 7) < 0) ok_X2_layInRow rfl q_cn (fun h1 => ?_) (fun h1 => ?_)
  · have hf := q_ip h1 hf
    cases hf
    exact q_krv ok_X2_layInRow rfl rfl (Nat.le_of_ble_eq_true rfl) (Nat.le_of_ble_eq_true rfl) ⟨rfl, q_hpe (q_fin [473, 487] rfl) (q_fin [] rfl)⟩
  · have hf := q_in h1 hf
    refine q_blf 3 [] (a := q_kc (t, r, m, z, N, ext, rx, L) I E 25 [some (.ref 473), some (.int x1), some (.int x2)] [] [] []) (b := q_kc (t, r, m, z, N, ext, rx, L) I E 7 [some (.ref 473), some (.int x1), some (.int x2)] [] [] []) (P := (64 : Int32) ≤ ((I 473) 7)) ok_X2_layInRow rfl q_cn (fun h2 => ?_) (fun h2 => ?_)
    · have hf := q_ip h2 hf
      cases hf
      exact q_krv ok_X2_layInRow rfl rfl (Nat.le_of_ble_eq_true rfl) (Nat.le_of_ble_eq_true rfl) ⟨rfl, q_hpe (q_fin [473, 487] rfl) (q_fin [] rfl)⟩
    · have hf := q_in h2 hf
      obtain ⟨j3, hj3, hf⟩ := q_bd hf
      refine q_blk 18 [j3] (c' := q_kc (t, r, m, z, N, ext, rx, L) I E 25 [some (.ref 473), some (.int x1), some (.int x2)] [] [(473, (q_up (q_up (I 473) 7 (((I 473) 7) + (1 : Int32))) 8 (((q_up (I 473) 7 (((I 473) 7) + (1 : Int32))) 8) + x2))), (487, (q_up (I 487) j3 x1))] []) ok_X2_layInRow rfl (q_cc hj3 q_cn) ?_
      cases hf
      exact q_krv ok_X2_layInRow rfl rfl (Nat.le_of_ble_eq_true rfl) (Nat.le_of_ble_eq_true rfl) ⟨rfl, q_hpe (q_fin [473, 487] rfl) (q_fin [] rfl)⟩
set_option maxHeartbeats 4000000 in
theorem ct_X1_promoteTo_474 {g : q_G} {t : Nat} {r : Nat} {m : Nat} {z : Nat} {N : Nat} {ext : Nat → q_Sh} {rx : Nat → Nat → Option Nat} {L : Nat → Nat → Int64} {d : Nat} (hd : 1 ≤ d)  {I : Nat → Nat → Int32} {E : Nat → Nat → Option Nat} {x1 : Int32} {x2 : Int32} {r0 : (Nat → Int32) × (Nat → Int32)} (hf : f_X1_promoteTo (I 475) (I 476) x1 x2 = some r0) : q_Ct g m_X1_promoteTo d 0 0 [] [.ref 474, .int x1, .int x2] (q_hp (t, r, m, z, N, ext, rx, L) I E) (fun o h' => o = .inl none ∧ h' = q_hp (t, r, m, z, N, ext, rx, L) (q_ws I [(475, r0.1), (476, r0.2)]) (q_ws E [])) := by
  rw [f_X1_promoteTo] at hf
  refine q_Ct_of ok_X1_promoteTo (Nat.le_of_ble_eq_true rfl) ?_ _ rfl rfl
  change q_J g m_X1_promoteTo d 0 0 _ [] _ 0 0 (q_kc (t, r, m, z, N, ext, rx, L) I E 0 [some (.ref 474), some (.int x1), some (.int x2)] [] [] [])
  refine q_blf 1 [] (a := q_kc (t, r, m, z, N, ext, rx, L) I E 15 [some (.ref 474), some (.int x1), some (.int x2)] [] [] []) (b := q_kc (t, r, m, z, N, ext, rx, L) I E 2 [some (.ref 474), some (.int x1), some (.int x2)] [] [] []) (P := x1 < 0) ok_X1_promoteTo rfl q_cn (fun h1 => ?_) (fun h1 => ?_)
  · have hf := q_ip h1 hf
    cases hf
    exact q_krv ok_X1_promoteTo rfl rfl (Nat.le_of_ble_eq_true rfl) (Nat.le_of_ble_eq_true rfl) ⟨rfl, q_hpe (q_fin [475, 476] rfl) (q_fin [] rfl)⟩
  · have hf := q_in h1 hf
    refine q_blf 2 [] (a := q_kc (t, r, m, z, N, ext, rx, L) I E 15 [some (.ref 474), some (.int x1), some (.int x2)] [] [] []) (b := q_kc (t, r, m, z, N, ext, rx, L) I E 5 [some (.ref 474), some (.int x1), some (.int x2)] [] [] []) (P := (128 : Int32) ≤ x1) ok_X1_promoteTo rfl q_cn (fun h2 => ?_) (fun h2 => ?_)
    · have hf := q_ip h2 hf
      cases hf
      exact q_krv ok_X1_promoteTo rfl rfl (Nat.le_of_ble_eq_true rfl) (Nat.le_of_ble_eq_true rfl) ⟨rfl, q_hpe (q_fin [475, 476] rfl) (q_fin [] rfl)⟩
    · have hf := q_in h2 hf
      obtain ⟨j3, hj3, hf⟩ := q_bd hf
      obtain ⟨j4, hj4, hf⟩ := q_bd hf
      refine q_blk 10 [j3, j4] (c' := q_kc (t, r, m, z, N, ext, rx, L) I E 15 [some (.ref 474), some (.int x1), some (.int x2)] [] [(475, (q_up (I 475) j4 (2 : Int32))), (476, (q_up (I 476) j3 x2))] []) ok_X1_promoteTo rfl (q_cc hj4 (q_cc hj3 q_cn)) ?_
      cases hf
      exact q_krv ok_X1_promoteTo rfl rfl (Nat.le_of_ble_eq_true rfl) (Nat.le_of_ble_eq_true rfl) ⟨rfl, q_hpe (q_fin [475, 476] rfl) (q_fin [] rfl)⟩
set_option maxHeartbeats 4000000 in
theorem lp_X5_lay_L2_481 {g : q_G} {d mc ms : Nat} {h0 : q_H} {Q : (Option Value ⊕ String) → q_H → Prop} {k n : Nat} {t : Nat} {r : Nat} {m : Nat} {z : Nat} {N : Nat} {ext : Nat → q_Sh} {rx : Nat → Nat → Option Nat} {L : Nat → Nat → Int64} (hd : 1 ≤ d) (hk : k ≤ mc) (hn : n ≤ ms)  {v1 : Int32} {v2 : Int32} {v3 : Int32} : ∀ (fu : Nat) {I : Nat → Nat → Int32} {E : Nat → Nat → Option Nat} {v4 : Int32} {r0 : (Nat → Int32)} (hf : f_X5_lay_L2 (I 481) v1 v2 v3 fu (I 482) v4 = some r0) (hK0 : q_J g m_X5_lay d mc ms h0 [] Q k n (q_kc (t, r, m, z, N, ext, rx, L) I E 25 [some (.ref 481), some (.int v1), none, none, none, none] [] [(482, r0)] [])), q_J g m_X5_lay d mc ms h0 [] Q k n (2, [some (.ref 481), some (.int v1), some (.int v2), some (.int v3), some (.int v4), none], [], q_hp (t, r, m, z, N, ext, rx, L) I E) := by
  intro fu
  induction fu with
  | zero =>
    intro I E v4 r0 hf hK0
    rw [f_X5_lay_L2] at hf
    cases hf
  | succ fu ih =>
    intro I E v4 r0 hf hK0
    rw [f_X5_lay_L2] at hf
    change q_J g m_X5_lay d mc ms h0 [] Q k n (q_kc (t, r, m, z, N, ext, rx, L) I E 2 [some (.ref 481), some (.int v1), some (.int v2), some (.int v3), some (.int v4), none] [] [] [])
    refine q_blf 2 [] (a := q_kc (t, r, m, z, N, ext, rx, L) I E 25 [some (.ref 481), some (.int v1), some (.int v2), some (.int v3), some (.int v4), none] [] [] []) (b := q_kc (t, r, m, z, N, ext, rx, L) I E 5 [some (.ref 481), some (.int v1), some (.int v2), some (.int v3), some (.int v4), none] [] [] []) (P := v3 ≤ v4) ok_X5_lay rfl q_cn (fun h1 => ?_) (fun h1 => ?_)
    · have hf := q_ip h1 hf
      refine q_less (ls' := [some (.ref 481), some (.int v1), none, none, none, none]) (q_sb2 (q_sb2 (q_sb1 (q_sb1 (q_sb1 (q_sb1 q_sb0)))))) ?_
      cases hf
      exact q_Jpad [482] [] rfl rfl hK0
    · have hf := q_in h1 hf
      refine q_blf 5 [] (a := q_kc (t, r, m, z, N, ext, rx, L) I E 23 [some (.ref 481), some (.int v1), some (.int v2), some (.int v3), some (.int v4), some (.int (v2 + v4))] [] [] []) (b := q_kc (t, r, m, z, N, ext, rx, L) I E 11 [some (.ref 481), some (.int v1), some (.int v2), some (.int v3), some (.int v4), some (.int (v2 + v4))] [] [] []) (P := (v2 + v4) < 0) ok_X5_lay rfl q_cn (fun h2 => ?_) (fun h2 => ?_)
      · have hf := q_ip h2 hf
        refine q_blk 2 [] (c' := q_kc (t, r, m, z, N, ext, rx, L) I E 2 [some (.ref 481), some (.int v1), some (.int v2), some (.int v3), some (.int (v4 + 1)), some (.int (v2 + v4))] [] [] []) ok_X5_lay rfl q_cn ?_
        refine q_less (ls' := [some (.ref 481), some (.int v1), some (.int v2), some (.int v3), some (.int (v4 + 1)), none]) (q_sb2 (q_sb2 (q_sb2 (q_sb2 (q_sb2 (q_sb1 q_sb0)))))) ?_
        exact ih (I := q_ws I []) (E := q_ws E []) hf (q_Jmrg rfl rfl hK0)
      · have hf := q_in h2 hf
        refine q_blf 3 [] (a := q_kc (t, r, m, z, N, ext, rx, L) I E 23 [some (.ref 481), some (.int v1), some (.int v2), some (.int v3), some (.int v4), some (.int (v2 + v4))] [] [] []) (b := q_kc (t, r, m, z, N, ext, rx, L) I E 15 [some (.ref 481), some (.int v1), some (.int v2), some (.int v3), some (.int v4), some (.int (v2 + v4))] [] [] []) (P := ((I 481) 1) ≤ (v2 + v4)) ok_X5_lay rfl q_cn (fun h3 => ?_) (fun h3 => ?_)
        · have hf := q_ip h3 hf
          refine q_blk 2 [] (c' := q_kc (t, r, m, z, N, ext, rx, L) I E 2 [some (.ref 481), some (.int v1), some (.int v2), some (.int v3), some (.int (v4 + 1)), some (.int (v2 + v4))] [] [] []) ok_X5_lay rfl q_cn ?_
          refine q_less (ls' := [some (.ref 481), some (.int v1), some (.int v2), some (.int v3), some (.int (v4 + 1)), none]) (q_sb2 (q_sb2 (q_sb2 (q_sb2 (q_sb2 (q_sb1 q_sb0)))))) ?_
          exact ih (I := q_ws I []) (E := q_ws E []) hf (q_Jmrg rfl rfl hK0)
        · have hf := q_in h3 hf
          refine q_blf 2 [] (a := q_kc (t, r, m, z, N, ext, rx, L) I E 23 [some (.ref 481), some (.int v1), some (.int v2), some (.int v3), some (.int v4), some (.int (v2 + v4))] [] [] []) (b := q_kc (t, r, m, z, N, ext, rx, L) I E 18 [some (.ref 481), some (.int v1), some (.int v2), some (.int v3), some (.int v4), some (.int (v2 + v4))] [] [] []) (P := (64 : Int32) ≤ (v2 + v4)) ok_X5_lay rfl q_cn (fun h4 => ?_) (fun h4 => ?_)
          · have hf := q_ip h4 hf
            refine q_blk 2 [] (c' := q_kc (t, r, m, z, N, ext, rx, L) I E 2 [some (.ref 481), some (.int v1), some (.int v2), some (.int v3), some (.int (v4 + 1)), some (.int (v2 + v4))] [] [] []) ok_X5_lay rfl q_cn ?_
            refine q_less (ls' := [some (.ref 481), some (.int v1), some (.int v2), some (.int v3), some (.int (v4 + 1)), none]) (q_sb2 (q_sb2 (q_sb2 (q_sb2 (q_sb2 (q_sb1 q_sb0)))))) ?_
            exact ih (I := q_ws I []) (E := q_ws E []) hf (q_Jmrg rfl rfl hK0)
          · have hf := q_in h4 hf
            obtain ⟨j5, hj5, hf⟩ := q_bd hf
            refine q_blk 7 [j5] (c' := q_kc (t, r, m, z, N, ext, rx, L) I E 2 [some (.ref 481), some (.int v1), some (.int v2), some (.int v3), some (.int (v4 + 1)), some (.int (v2 + v4))] [] [(482, (q_up (I 482) j5 v1))] []) ok_X5_lay rfl (q_cc hj5 q_cn) ?_
            refine q_less (ls' := [some (.ref 481), some (.int v1), some (.int v2), some (.int v3), some (.int (v4 + 1)), none]) (q_sb2 (q_sb2 (q_sb2 (q_sb2 (q_sb2 (q_sb1 q_sb0)))))) ?_
            exact ih (I := q_ws I [(482, (q_up (I 482) j5 v1))]) (E := q_ws E []) hf (q_Jmrg rfl rfl hK0)
set_option maxHeartbeats 4000000 in
theorem ct_X5_lay_481 {g : q_G} {t : Nat} {r : Nat} {m : Nat} {z : Nat} {N : Nat} {ext : Nat → q_Sh} {rx : Nat → Nat → Option Nat} {L : Nat → Nat → Int64} {d : Nat} (hd : 1 ≤ d)  {I : Nat → Nat → Int32} {E : Nat → Nat → Option Nat} {x1 : Int32} {x2 : Int32} {x3 : Int32} {r0 : (Nat → Int32) × (Nat → Int32)} (hf : f_X5_lay (I 481) (I 482) x1 x2 x3 = some r0) : q_Ct g m_X5_lay d 0 0 [] [.ref 481, .int x1, .int x2, .int x3] (q_hp (t, r, m, z, N, ext, rx, L) I E) (fun o h' => o = .inl none ∧ h' = q_hp (t, r, m, z, N, ext, rx, L) (q_ws I [(481, r0.1), (482, r0.2)]) (q_ws E [])) := by
  rw [f_X5_lay] at hf
  refine q_Ct_of ok_X5_lay (Nat.le_of_ble_eq_true rfl) ?_ _ rfl rfl
  change q_J g m_X5_lay d 0 0 _ [] _ 0 0 (q_kc (t, r, m, z, N, ext, rx, L) I E 0 [some (.ref 481), some (.int x1), some (.int x2), some (.int x3), none, none] [] [] [])
  refine q_blk 2 [] (c' := q_kc (t, r, m, z, N, ext, rx, L) I E 2 [some (.ref 481), some (.int x1), some (.int x2), some (.int x3), some (.int (0 : Int32)), none] [] [] []) ok_X5_lay rfl q_cn ?_
  obtain ⟨r6, hr6, hf⟩ := q_bd hf
  refine lp_X5_lay_L2_481 (I := q_ws I []) (E := q_ws E []) hd (Nat.le_of_ble_eq_true rfl) (Nat.le_of_ble_eq_true rfl) 4096 hr6 ?_
  refine q_Jmrg (lI' := [(482, r6)]) (lE' := []) rfl rfl ?_
  refine q_blf 5 [] (a := q_kc (t, r, m, z, N, ext, rx, L) I E 33 [some (.ref 481), some (.int x1), none, none, none, none] [.int ((I 481) 2), .ref 481] [(482, r6)] []) (b := q_kc (t, r, m, z, N, ext, rx, L) I E 31 [some (.ref 481), some (.int x1), none, none, none, none] [.int ((I 481) 2), .ref 481] [(482, r6)] []) (P := ¬ x1 = (-1 : Int32)) ok_X5_lay rfl q_cn (fun h7 => ?_) (fun h7 => ?_)
  · have hf := q_ip h7 hf
    refine q_blk 3 [] (c' := q_kc (t, r, m, z, N, ext, rx, L) I E 36 [some (.ref 481), some (.int x1), none, none, none, none] [] [(481, (q_up (I 481) 2 (((I 481) 2) + (1 : Int32)))), (482, r6)] []) ok_X5_lay rfl q_cn ?_
    cases hf
    exact q_krv ok_X5_lay rfl rfl (Nat.le_of_ble_eq_true rfl) (Nat.le_of_ble_eq_true rfl) ⟨rfl, q_hpe (q_fin [481, 482] rfl) (q_fin [] rfl)⟩
  · have hf := q_in h7 hf
    refine q_blk 4 [] (c' := q_kc (t, r, m, z, N, ext, rx, L) I E 36 [some (.ref 481), some (.int x1), none, none, none, none] [] [(481, (q_up (I 481) 2 (((I 481) 2) + (-1 : Int32)))), (482, r6)] []) ok_X5_lay rfl q_cn ?_
    cases hf
    exact q_krv ok_X5_lay rfl rfl (Nat.le_of_ble_eq_true rfl) (Nat.le_of_ble_eq_true rfl) ⟨rfl, q_hpe (q_fin [481, 482] rfl) (q_fin [] rfl)⟩
set_option maxHeartbeats 4000000 in
theorem ct_X2_takeOver_473 {g : q_G} {r : Nat} {m : Nat} {z : Nat} {N : Nat} {ext : Nat → q_Sh} {rx : Nat → Nat → Option Nat} {L : Nat → Nat → Int64} {d : Nat} (hd : 2 ≤ d)  {I : Nat → Nat → Int32} {E : Nat → Nat → Option Nat} {x1 : Int32} {r0 : (Nat → Int32) × (Nat → Int32) × (Nat → Int32) × (Nat → Int32) × (Nat → Int32) × (Nat → Int32) × (Nat → Int32) × (Nat → Int32) × (Nat → Int32) × (Nat → Int32)} (hf : f_X2_takeOver (I 402) (I 473) (I 475) (I 476) (I 477) (I 478) (I 481) (I 482) (I 483) (I 484) (I 485) (I 487) x1 = some r0) : q_Ct g m_X2_takeOver d 0 0 [] [.ref 473, .int x1] (q_hp (0, r, m, z, N, ext, rx, L) I E) (fun o h' => o = .inl none ∧ h' = q_hp (0, r, m, z, N, ext, rx, L) (q_ws I [(473, r0.1), (475, r0.2.1), (476, r0.2.2.1), (478, r0.2.2.2.1), (481, r0.2.2.2.2.1), (482, r0.2.2.2.2.2.1), (483, r0.2.2.2.2.2.2.1), (484, r0.2.2.2.2.2.2.2.1), (485, r0.2.2.2.2.2.2.2.2.1), (487, r0.2.2.2.2.2.2.2.2.2)]) (q_ws E [])) := by
  rw [f_X2_takeOver] at hf
  refine q_Ct_of ok_X2_takeOver (Nat.le_of_ble_eq_true rfl) ?_ _ rfl rfl
  change q_J g m_X2_takeOver d 0 0 _ [] _ 0 0 (q_kc (0, r, m, z, N, ext, rx, L) I E 0 [some (.ref 473), some (.int x1), none, none] [] [] [])
  refine q_blk 3 [] (c' := q_kc (0, r, m, z, N, ext, rx, L) I E 3 [some (.ref 473), some (.int x1), none, none] [.int x1, .ref 474] [] []) ok_X2_takeOver rfl q_cn ?_
  obtain ⟨r1, hr1, hf⟩ := q_bd hf
  refine q_kV (M2 := m_X1_liesInHalf) (As := [.int x1]) (b := 474) (v2 := some (.int (q_bz r1))) ok_X2_takeOver ok_X1_liesInHalf cv_X1_liesInHalf (ct_X1_liesInHalf_474 (d := 1) (Nat.le_refl _) hr1) rfl rfl (Or.inl rfl) rfl rfl rfl rfl (Nat.le_trans (Nat.le_of_ble_eq_true rfl) hd) (Nat.le_of_ble_eq_true rfl) (Nat.le_of_ble_eq_true rfl) (Nat.le_of_ble_eq_true rfl) (fun x hx => absurd hx List.not_mem_nil) (q_nmL0 _) (q_nmS0 _) rfl (pos' := 4) (st' := [.int (q_bz r1)]) (lI' := []) (lE' := []) rfl rfl rfl rfl ?_
  refine q_blf 0 [] (a := q_kc (0, r, m, z, N, ext, rx, L) I E 11 [some (.ref 473), some (.int x1), none, none] [] [] []) (b := q_kc (0, r, m, z, N, ext, rx, L) I E 5 [some (.ref 473), some (.int x1), none, none] [] [] []) (P := (q_bz r1) = 0) ok_X2_takeOver rfl q_cn (fun h2 => ?_) (fun h2 => ?_)
  · have hf := q_ip h2 hf
    cases hf
    exact q_krv ok_X2_takeOver rfl rfl (Nat.le_of_ble_eq_true rfl) (Nat.le_of_ble_eq_true rfl) ⟨rfl, q_hpe (q_fin [473, 475, 476, 478, 481, 482, 483, 484, 485, 487] rfl) (q_fin [] rfl)⟩
  · have hf := q_in h2 hf
    refine q_blk 4 [] (c' := q_kc (0, r, m, z, N, ext, rx, L) I E 9 [some (.ref 473), some (.int x1), none, none] [.int (0 : Int32), .int x1, .ref 483] [] []) ok_X2_takeOver rfl q_cn ?_
    obtain ⟨r3, hr3, hf⟩ := q_bd hf
    refine q_kV (M2 := m_X4_add) (As := [.int x1, .int (0 : Int32)]) (b := 483) (v2 := some (.int (q_bz r3.1))) ok_X2_takeOver ok_X4_add cv_X4_add (ct_X4_add_483 (d := 1) (Nat.le_refl _) hr3) rfl rfl (Or.inl rfl) rfl rfl rfl rfl (Nat.le_trans (Nat.le_of_ble_eq_true rfl) hd) (Nat.le_of_ble_eq_true rfl) (Nat.le_of_ble_eq_true rfl) (Nat.le_of_ble_eq_true rfl) (fun x hx => absurd hx List.not_mem_nil) (q_nmL0 _) (q_nmS0 _) rfl (pos' := 10) (st' := [.int (q_bz r3.1)]) (lI' := [(483, r3.2.1), (484, r3.2.2.1), (485, r3.2.2.2)]) (lE' := []) rfl rfl rfl rfl ?_
    refine q_blf 0 [] (a := q_kc (0, r, m, z, N, ext, rx, L) I E 12 [some (.ref 473), some (.int x1), none, none] [] [(483, r3.2.1), (484, r3.2.2.1), (485, r3.2.2.2)] []) (b := q_kc (0, r, m, z, N, ext, rx, L) I E 11 [some (.ref 473), some (.int x1), none, none] [] [(483, r3.2.1), (484, r3.2.2.1), (485, r3.2.2.2)] []) (P := ¬ (q_bz r3.1) = 0) ok_X2_takeOver rfl q_cn (fun h4 => ?_) (fun h4 => ?_)
    · have hf := q_ip h4 hf
      refine q_blk 3 [] (c' := q_kc (0, r, m, z, N, ext, rx, L) I E 15 [some (.ref 473), some (.int x1), none, none] [.int x1, .ref 474] [(483, r3.2.1), (484, r3.2.2.1), (485, r3.2.2.2)] []) ok_X2_takeOver rfl q_cn ?_
      obtain ⟨r5, hr5, hf⟩ := q_bd hf
      refine q_kV (M2 := m_X1_size) (As := [.int x1]) (b := 474) (v2 := some (.int r5)) ok_X2_takeOver ok_X1_size cv_X1_size (ct_X1_size_474 (d := 1) (Nat.le_refl _) hr5) rfl rfl (Or.inl rfl) rfl rfl rfl rfl (Nat.le_trans (Nat.le_of_ble_eq_true rfl) hd) (Nat.le_of_ble_eq_true rfl) (Nat.le_of_ble_eq_true rfl) (Nat.le_of_ble_eq_true rfl) (fun x hx => absurd hx List.not_mem_nil) (q_nmL0 _) (q_nmS0 _) rfl (pos' := 16) (st' := [.int r5]) (lI' := [(483, r3.2.1), (484, r3.2.2.1), (485, r3.2.2.2)]) (lE' := []) rfl rfl rfl rfl ?_
      refine q_blk 4 [] (c' := q_kc (0, r, m, z, N, ext, rx, L) I E 20 [some (.ref 473), some (.int x1), some (.int r5), none] [.int x1, .ref 474] [(483, r3.2.1), (484, r3.2.2.1), (485, r3.2.2.2)] []) ok_X2_takeOver rfl q_cn ?_
      obtain ⟨r6, hr6, hf⟩ := q_bd hf
      refine q_kV (M2 := m_X1_age) (As := [.int x1]) (b := 474) (v2 := some (.int r6)) ok_X2_takeOver ok_X1_age cv_X1_age (ct_X1_age_474 (d := 1) (Nat.le_refl _) hr6) rfl rfl (Or.inl rfl) rfl rfl rfl rfl (Nat.le_trans (Nat.le_of_ble_eq_true rfl) hd) (Nat.le_of_ble_eq_true rfl) (Nat.le_of_ble_eq_true rfl) (Nat.le_of_ble_eq_true rfl) (fun x hx => absurd hx List.not_mem_nil) (q_nmL0 _) (q_nmS0 _) rfl (pos' := 21) (st' := [.int r6]) (lI' := [(483, r3.2.1), (484, r3.2.2.1), (485, r3.2.2.2)]) (lE' := []) rfl rfl rfl rfl ?_
      refine q_blf 3 [] (a := q_kc (0, r, m, z, N, ext, rx, L) I E 30 [some (.ref 473), some (.int x1), some (.int r5), none] [] [(483, r3.2.1), (484, r3.2.2.1), (485, r3.2.2.2)] []) (b := q_kc (0, r, m, z, N, ext, rx, L) I E 25 [some (.ref 473), some (.int x1), some (.int r5), none] [] [(483, r3.2.1), (484, r3.2.2.1), (485, r3.2.2.2)] []) (P := r6 < ((I 402) 2)) ok_X2_takeOver rfl q_cn (fun h7 => ?_) (fun h7 => ?_)
      · have hf := q_ip h7 hf
        refine q_blf 4 [] (a := q_kc (0, r, m, z, N, ext, rx, L) I E 46 [some (.ref 473), some (.int x1), some (.int r5), some (.int (-1 : Int32))] [] [(483, r3.2.1), (484, r3.2.2.1), (485, r3.2.2.2)] []) (b := q_kc (0, r, m, z, N, ext, rx, L) I E 35 [some (.ref 473), some (.int x1), some (.int r5), some (.int (-1 : Int32))] [] [(483, r3.2.1), (484, r3.2.2.1), (485, r3.2.2.2)] []) (P := ¬ (-1 : Int32) = (-1 : Int32)) ok_X2_takeOver rfl q_cn (fun h8 => ?_) (fun h8 => ?_)
        · have hf := q_ip h8 hf
          refine q_blk 4 [] (c' := q_kc (0, r, m, z, N, ext, rx, L) I E 50 [some (.ref 473), some (.int x1), some (.int r5), some (.int (-1 : Int32))] [.int (-1 : Int32), .int x1, .ref 474] [(483, r3.2.1), (484, r3.2.2.1), (485, r3.2.2.2)] []) ok_X2_takeOver rfl q_cn ?_
          obtain ⟨r9, hr9, hf⟩ := q_bd hf
          refine q_kV (M2 := m_X1_promoteTo) (As := [.int x1, .int (-1 : Int32)]) (b := 474) (v2 := none) ok_X2_takeOver ok_X1_promoteTo cv_X1_promoteTo (ct_X1_promoteTo_474 (d := 1) (Nat.le_refl _) hr9) rfl rfl (Or.inl rfl) rfl rfl rfl rfl (Nat.le_trans (Nat.le_of_ble_eq_true rfl) hd) (Nat.le_of_ble_eq_true rfl) (Nat.le_of_ble_eq_true rfl) (Nat.le_of_ble_eq_true rfl) (fun x hx => absurd hx List.not_mem_nil) (q_nmL0 _) (q_nmS0 _) rfl (pos' := 51) (st' := []) (lI' := [(475, r9.1), (476, r9.2), (483, r3.2.1), (484, r3.2.2.1), (485, r3.2.2.2)]) (lE' := []) rfl rfl rfl rfl ?_
          refine q_blk 5 [] (c' := q_kc (0, r, m, z, N, ext, rx, L) I E 56 [some (.ref 473), some (.int x1), some (.int r5), some (.int (-1 : Int32))] [.int r5, .int (-1 : Int32), .int x1, .ref 481] [(475, r9.1), (476, r9.2), (483, r3.2.1), (484, r3.2.2.1), (485, r3.2.2.2)] []) ok_X2_takeOver rfl q_cn ?_
          obtain ⟨r10, hr10, hf⟩ := q_bd hf
          refine q_kV (M2 := m_X5_lay) (As := [.int x1, .int (-1 : Int32), .int r5]) (b := 481) (v2 := none) ok_X2_takeOver ok_X5_lay cv_X5_lay (ct_X5_lay_481 (d := 1) (Nat.le_refl _) hr10) rfl rfl (Or.inl rfl) rfl rfl rfl rfl (Nat.le_trans (Nat.le_of_ble_eq_true rfl) hd) (Nat.le_of_ble_eq_true rfl) (Nat.le_of_ble_eq_true rfl) (Nat.le_of_ble_eq_true rfl) (fun x hx => absurd hx List.not_mem_nil) (q_nmL0 _) (q_nmS0 _) rfl (pos' := 57) (st' := []) (lI' := [(475, r9.1), (476, r9.2), (481, r10.1), (482, r10.2), (483, r3.2.1), (484, r3.2.2.1), (485, r3.2.2.2)]) (lE' := []) rfl rfl rfl rfl ?_
          refine q_blk 6 [] (c' := q_kc (0, r, m, z, N, ext, rx, L) I E 63 [some (.ref 473), some (.int x1), some (.int r5), some (.int (-1 : Int32))] [] [(473, (q_up (I 473) 13 (((I 473) 13) + (1 : Int32)))), (475, r9.1), (476, r9.2), (481, r10.1), (482, r10.2), (483, r3.2.1), (484, r3.2.2.1), (485, r3.2.2.2)] []) ok_X2_takeOver rfl q_cn ?_
          cases hf
          exact q_krv ok_X2_takeOver rfl rfl (Nat.le_of_ble_eq_true rfl) (Nat.le_of_ble_eq_true rfl) ⟨rfl, q_hpe (q_fin [473, 475, 476, 478, 481, 482, 483, 484, 485, 487] rfl) (q_fin [] rfl)⟩
        · have hf := q_in h8 hf
          refine q_blk 5 [] (c' := q_kc (0, r, m, z, N, ext, rx, L) I E 40 [some (.ref 473), some (.int x1), some (.int r5), some (.int (-1 : Int32))] [.int ((I 473) 8), .int x1, .ref 474] [(483, r3.2.1), (484, r3.2.2.1), (485, r3.2.2.2)] []) ok_X2_takeOver rfl q_cn ?_
          obtain ⟨r11, hr11, hf⟩ := q_bd hf
          refine q_kV (M2 := m_X1_copyTo) (As := [.int x1, .int ((I 473) 8)]) (b := 474) (v2 := none) ok_X2_takeOver ok_X1_copyTo cv_X1_copyTo (ct_X1_copyTo_474 (d := 1) (Nat.le_refl _) hr11) rfl rfl (Or.inl rfl) rfl rfl rfl rfl (Nat.le_trans (Nat.le_of_ble_eq_true rfl) hd) (Nat.le_of_ble_eq_true rfl) (Nat.le_of_ble_eq_true rfl) (Nat.le_of_ble_eq_true rfl) (fun x hx => absurd hx List.not_mem_nil) (q_nmL0 _) (q_nmS0 _) rfl (pos' := 41) (st' := []) (lI' := [(476, r11.1), (478, r11.2), (483, r3.2.1), (484, r3.2.2.1), (485, r3.2.2.2)]) (lE' := []) rfl rfl rfl rfl ?_
          refine q_blk 3 [] (c' := q_kc (0, r, m, z, N, ext, rx, L) I E 44 [some (.ref 473), some (.int x1), some (.int r5), some (.int (-1 : Int32))] [.int r5, .int x1, .ref 473] [(476, r11.1), (478, r11.2), (483, r3.2.1), (484, r3.2.2.1), (485, r3.2.2.2)] []) ok_X2_takeOver rfl q_cn ?_
          obtain ⟨r12, hr12, hf⟩ := q_bd hf
          refine q_kV (M2 := m_X2_layInRow) (As := [.int x1, .int r5]) (b := 473) (v2 := none) ok_X2_takeOver ok_X2_layInRow cv_X2_layInRow (ct_X2_layInRow_473 (d := 1) (Nat.le_refl _) hr12) rfl rfl (Or.inl rfl) rfl rfl rfl rfl (Nat.le_trans (Nat.le_of_ble_eq_true rfl) hd) (Nat.le_of_ble_eq_true rfl) (Nat.le_of_ble_eq_true rfl) (Nat.le_of_ble_eq_true rfl) (fun x hx => absurd hx List.not_mem_nil) (q_nmL0 _) (q_nmS0 _) rfl (pos' := 45) (st' := []) (lI' := [(473, r12.1), (476, r11.1), (478, r11.2), (483, r3.2.1), (484, r3.2.2.1), (485, r3.2.2.2), (487, r12.2)]) (lE' := []) rfl rfl rfl rfl ?_
          refine q_blk 1 [] (c' := q_kc (0, r, m, z, N, ext, rx, L) I E 63 [some (.ref 473), some (.int x1), some (.int r5), some (.int (-1 : Int32))] [] [(473, r12.1), (476, r11.1), (478, r11.2), (483, r3.2.1), (484, r3.2.2.1), (485, r3.2.2.2), (487, r12.2)] []) ok_X2_takeOver rfl q_cn ?_
          cases hf
          exact q_krv ok_X2_takeOver rfl rfl (Nat.le_of_ble_eq_true rfl) (Nat.le_of_ble_eq_true rfl) ⟨rfl, q_hpe (q_fin [473, 475, 476, 478, 481, 482, 483, 484, 485, 487] rfl) (q_fin [] rfl)⟩
      · have hf := q_in h7 hf
        refine q_blk 3 [] (c' := q_kc (0, r, m, z, N, ext, rx, L) I E 28 [some (.ref 473), some (.int x1), some (.int r5), none] [.int r5, .ref 481] [(483, r3.2.1), (484, r3.2.2.1), (485, r3.2.2.2)] []) ok_X2_takeOver rfl q_cn ?_
        obtain ⟨r13, hr13, hf⟩ := q_bd hf
        refine q_kV (M2 := m_X5_gapFor) (As := [.int r5]) (b := 481) (v2 := some (.int r13)) ok_X2_takeOver ok_X5_gapFor cv_X5_gapFor (ct_X5_gapFor_481 (d := 1) (Nat.le_refl _) hr13) rfl rfl (Or.inl rfl) rfl rfl rfl rfl (Nat.le_trans (Nat.le_of_ble_eq_true rfl) hd) (Nat.le_of_ble_eq_true rfl) (Nat.le_of_ble_eq_true rfl) (Nat.le_of_ble_eq_true rfl) (fun x hx => absurd hx List.not_mem_nil) (q_nmL0 _) (q_nmS0 _) rfl (pos' := 29) (st' := [.int r13]) (lI' := [(483, r3.2.1), (484, r3.2.2.1), (485, r3.2.2.2)]) (lE' := []) rfl rfl rfl rfl ?_
        refine q_blf 4 [] (a := q_kc (0, r, m, z, N, ext, rx, L) I E 46 [some (.ref 473), some (.int x1), some (.int r5), some (.int r13)] [] [(483, r3.2.1), (484, r3.2.2.1), (485, r3.2.2.2)] []) (b := q_kc (0, r, m, z, N, ext, rx, L) I E 35 [some (.ref 473), some (.int x1), some (.int r5), some (.int r13)] [] [(483, r3.2.1), (484, r3.2.2.1), (485, r3.2.2.2)] []) (P := ¬ r13 = (-1 : Int32)) ok_X2_takeOver rfl q_cn (fun h14 => ?_) (fun h14 => ?_)
        · have hf := q_ip h14 hf
          refine q_blk 4 [] (c' := q_kc (0, r, m, z, N, ext, rx, L) I E 50 [some (.ref 473), some (.int x1), some (.int r5), some (.int r13)] [.int r13, .int x1, .ref 474] [(483, r3.2.1), (484, r3.2.2.1), (485, r3.2.2.2)] []) ok_X2_takeOver rfl q_cn ?_
          obtain ⟨r15, hr15, hf⟩ := q_bd hf
          refine q_kV (M2 := m_X1_promoteTo) (As := [.int x1, .int r13]) (b := 474) (v2 := none) ok_X2_takeOver ok_X1_promoteTo cv_X1_promoteTo (ct_X1_promoteTo_474 (d := 1) (Nat.le_refl _) hr15) rfl rfl (Or.inl rfl) rfl rfl rfl rfl (Nat.le_trans (Nat.le_of_ble_eq_true rfl) hd) (Nat.le_of_ble_eq_true rfl) (Nat.le_of_ble_eq_true rfl) (Nat.le_of_ble_eq_true rfl) (fun x hx => absurd hx List.not_mem_nil) (q_nmL0 _) (q_nmS0 _) rfl (pos' := 51) (st' := []) (lI' := [(475, r15.1), (476, r15.2), (483, r3.2.1), (484, r3.2.2.1), (485, r3.2.2.2)]) (lE' := []) rfl rfl rfl rfl ?_
          refine q_blk 5 [] (c' := q_kc (0, r, m, z, N, ext, rx, L) I E 56 [some (.ref 473), some (.int x1), some (.int r5), some (.int r13)] [.int r5, .int r13, .int x1, .ref 481] [(475, r15.1), (476, r15.2), (483, r3.2.1), (484, r3.2.2.1), (485, r3.2.2.2)] []) ok_X2_takeOver rfl q_cn ?_
          obtain ⟨r16, hr16, hf⟩ := q_bd hf
          refine q_kV (M2 := m_X5_lay) (As := [.int x1, .int r13, .int r5]) (b := 481) (v2 := none) ok_X2_takeOver ok_X5_lay cv_X5_lay (ct_X5_lay_481 (d := 1) (Nat.le_refl _) hr16) rfl rfl (Or.inl rfl) rfl rfl rfl rfl (Nat.le_trans (Nat.le_of_ble_eq_true rfl) hd) (Nat.le_of_ble_eq_true rfl) (Nat.le_of_ble_eq_true rfl) (Nat.le_of_ble_eq_true rfl) (fun x hx => absurd hx List.not_mem_nil) (q_nmL0 _) (q_nmS0 _) rfl (pos' := 57) (st' := []) (lI' := [(475, r15.1), (476, r15.2), (481, r16.1), (482, r16.2), (483, r3.2.1), (484, r3.2.2.1), (485, r3.2.2.2)]) (lE' := []) rfl rfl rfl rfl ?_
          refine q_blk 6 [] (c' := q_kc (0, r, m, z, N, ext, rx, L) I E 63 [some (.ref 473), some (.int x1), some (.int r5), some (.int r13)] [] [(473, (q_up (I 473) 13 (((I 473) 13) + (1 : Int32)))), (475, r15.1), (476, r15.2), (481, r16.1), (482, r16.2), (483, r3.2.1), (484, r3.2.2.1), (485, r3.2.2.2)] []) ok_X2_takeOver rfl q_cn ?_
          cases hf
          exact q_krv ok_X2_takeOver rfl rfl (Nat.le_of_ble_eq_true rfl) (Nat.le_of_ble_eq_true rfl) ⟨rfl, q_hpe (q_fin [473, 475, 476, 478, 481, 482, 483, 484, 485, 487] rfl) (q_fin [] rfl)⟩
        · have hf := q_in h14 hf
          refine q_blk 5 [] (c' := q_kc (0, r, m, z, N, ext, rx, L) I E 40 [some (.ref 473), some (.int x1), some (.int r5), some (.int r13)] [.int ((I 473) 8), .int x1, .ref 474] [(483, r3.2.1), (484, r3.2.2.1), (485, r3.2.2.2)] []) ok_X2_takeOver rfl q_cn ?_
          obtain ⟨r17, hr17, hf⟩ := q_bd hf
          refine q_kV (M2 := m_X1_copyTo) (As := [.int x1, .int ((I 473) 8)]) (b := 474) (v2 := none) ok_X2_takeOver ok_X1_copyTo cv_X1_copyTo (ct_X1_copyTo_474 (d := 1) (Nat.le_refl _) hr17) rfl rfl (Or.inl rfl) rfl rfl rfl rfl (Nat.le_trans (Nat.le_of_ble_eq_true rfl) hd) (Nat.le_of_ble_eq_true rfl) (Nat.le_of_ble_eq_true rfl) (Nat.le_of_ble_eq_true rfl) (fun x hx => absurd hx List.not_mem_nil) (q_nmL0 _) (q_nmS0 _) rfl (pos' := 41) (st' := []) (lI' := [(476, r17.1), (478, r17.2), (483, r3.2.1), (484, r3.2.2.1), (485, r3.2.2.2)]) (lE' := []) rfl rfl rfl rfl ?_
          refine q_blk 3 [] (c' := q_kc (0, r, m, z, N, ext, rx, L) I E 44 [some (.ref 473), some (.int x1), some (.int r5), some (.int r13)] [.int r5, .int x1, .ref 473] [(476, r17.1), (478, r17.2), (483, r3.2.1), (484, r3.2.2.1), (485, r3.2.2.2)] []) ok_X2_takeOver rfl q_cn ?_
          obtain ⟨r18, hr18, hf⟩ := q_bd hf
          refine q_kV (M2 := m_X2_layInRow) (As := [.int x1, .int r5]) (b := 473) (v2 := none) ok_X2_takeOver ok_X2_layInRow cv_X2_layInRow (ct_X2_layInRow_473 (d := 1) (Nat.le_refl _) hr18) rfl rfl (Or.inl rfl) rfl rfl rfl rfl (Nat.le_trans (Nat.le_of_ble_eq_true rfl) hd) (Nat.le_of_ble_eq_true rfl) (Nat.le_of_ble_eq_true rfl) (Nat.le_of_ble_eq_true rfl) (fun x hx => absurd hx List.not_mem_nil) (q_nmL0 _) (q_nmS0 _) rfl (pos' := 45) (st' := []) (lI' := [(473, r18.1), (476, r17.1), (478, r17.2), (483, r3.2.1), (484, r3.2.2.1), (485, r3.2.2.2), (487, r18.2)]) (lE' := []) rfl rfl rfl rfl ?_
          refine q_blk 1 [] (c' := q_kc (0, r, m, z, N, ext, rx, L) I E 63 [some (.ref 473), some (.int x1), some (.int r5), some (.int r13)] [] [(473, r18.1), (476, r17.1), (478, r17.2), (483, r3.2.1), (484, r3.2.2.1), (485, r3.2.2.2), (487, r18.2)] []) ok_X2_takeOver rfl q_cn ?_
          cases hf
          exact q_krv ok_X2_takeOver rfl rfl (Nat.le_of_ble_eq_true rfl) (Nat.le_of_ble_eq_true rfl) ⟨rfl, q_hpe (q_fin [473, 475, 476, 478, 481, 482, 483, 484, 485, 487] rfl) (q_fin [] rfl)⟩
    · have hf := q_in h4 hf
      cases hf
      exact q_krv ok_X2_takeOver rfl rfl (Nat.le_of_ble_eq_true rfl) (Nat.le_of_ble_eq_true rfl) ⟨rfl, q_hpe (q_fin [473, 475, 476, 478, 481, 482, 483, 484, 485, 487] rfl) (q_fin [] rfl)⟩
set_option maxHeartbeats 4000000 in
theorem ct_X5_at_481 {g : q_G} {t : Nat} {r : Nat} {m : Nat} {z : Nat} {N : Nat} {ext : Nat → q_Sh} {rx : Nat → Nat → Option Nat} {L : Nat → Nat → Int64} {d : Nat} (hd : 1 ≤ d)  {I : Nat → Nat → Int32} {E : Nat → Nat → Option Nat} {x1 : Int32} {r0 : Int32} (hf : f_X5_at (I 481) (I 482) x1 = some r0) : q_Ct g m_X5_at d 0 0 [] [.ref 481, .int x1] (q_hp (t, r, m, z, N, ext, rx, L) I E) (fun o h' => o = .inl (some (.int r0)) ∧ h' = q_hp (t, r, m, z, N, ext, rx, L) (q_ws I []) (q_ws E [])) := by
  rw [f_X5_at] at hf
  refine q_Ct_of ok_X5_at (Nat.le_of_ble_eq_true rfl) ?_ _ rfl rfl
  change q_J g m_X5_at d 0 0 _ [] _ 0 0 (q_kc (t, r, m, z, N, ext, rx, L) I E 0 [some (.ref 481), some (.int x1)] [] [] [])
  refine q_blf 1 [] (a := q_kc (t, r, m, z, N, ext, rx, L) I E 14 [some (.ref 481), some (.int x1)] [] [] []) (b := q_kc (t, r, m, z, N, ext, rx, L) I E 2 [some (.ref 481), some (.int x1)] [] [] []) (P := x1 < 0) ok_X5_at rfl q_cn (fun h1 => ?_) (fun h1 => ?_)
  · have hf := q_ip h1 hf
    refine q_blk 1 [] (c' := q_kc (t, r, m, z, N, ext, rx, L) I E 15 [some (.ref 481), some (.int x1)] [.int (-1 : Int32)] [] []) ok_X5_at rfl q_cn ?_
    cases hf
    exact q_kri ok_X5_at rfl rfl rfl (Nat.le_of_ble_eq_true rfl) (Nat.le_of_ble_eq_true rfl) ⟨rfl, q_hpe (q_fin [] rfl) (q_fin [] rfl)⟩
  · have hf := q_in h1 hf
    refine q_blf 3 [] (a := q_kc (t, r, m, z, N, ext, rx, L) I E 14 [some (.ref 481), some (.int x1)] [] [] []) (b := q_kc (t, r, m, z, N, ext, rx, L) I E 6 [some (.ref 481), some (.int x1)] [] [] []) (P := ((I 481) 1) ≤ x1) ok_X5_at rfl q_cn (fun h2 => ?_) (fun h2 => ?_)
    · have hf := q_ip h2 hf
      refine q_blk 1 [] (c' := q_kc (t, r, m, z, N, ext, rx, L) I E 15 [some (.ref 481), some (.int x1)] [.int (-1 : Int32)] [] []) ok_X5_at rfl q_cn ?_
      cases hf
      exact q_kri ok_X5_at rfl rfl rfl (Nat.le_of_ble_eq_true rfl) (Nat.le_of_ble_eq_true rfl) ⟨rfl, q_hpe (q_fin [] rfl) (q_fin [] rfl)⟩
    · have hf := q_in h2 hf
      refine q_blf 2 [] (a := q_kc (t, r, m, z, N, ext, rx, L) I E 14 [some (.ref 481), some (.int x1)] [] [] []) (b := q_kc (t, r, m, z, N, ext, rx, L) I E 9 [some (.ref 481), some (.int x1)] [] [] []) (P := (64 : Int32) ≤ x1) ok_X5_at rfl q_cn (fun h3 => ?_) (fun h3 => ?_)
      · have hf := q_ip h3 hf
        refine q_blk 1 [] (c' := q_kc (t, r, m, z, N, ext, rx, L) I E 15 [some (.ref 481), some (.int x1)] [.int (-1 : Int32)] [] []) ok_X5_at rfl q_cn ?_
        cases hf
        exact q_kri ok_X5_at rfl rfl rfl (Nat.le_of_ble_eq_true rfl) (Nat.le_of_ble_eq_true rfl) ⟨rfl, q_hpe (q_fin [] rfl) (q_fin [] rfl)⟩
      · have hf := q_in h3 hf
        obtain ⟨j4, hj4, hf⟩ := q_bd hf
        refine q_blk 5 [j4] (c' := q_kc (t, r, m, z, N, ext, rx, L) I E 15 [some (.ref 481), some (.int x1)] [.int ((I 482) j4)] [] []) ok_X5_at rfl (q_cc hj4 q_cn) ?_
        cases hf
        exact q_kri ok_X5_at rfl rfl rfl (Nat.le_of_ble_eq_true rfl) (Nat.le_of_ble_eq_true rfl) ⟨rfl, q_hpe (q_fin [] rfl) (q_fin [] rfl)⟩
set_option maxHeartbeats 4000000 in
theorem ct_X1_place_474 {g : q_G} {t : Nat} {r : Nat} {m : Nat} {z : Nat} {N : Nat} {ext : Nat → q_Sh} {rx : Nat → Nat → Option Nat} {L : Nat → Nat → Int64} {d : Nat} (hd : 1 ≤ d)  {I : Nat → Nat → Int32} {E : Nat → Nat → Option Nat} {x1 : Int32} {r0 : Int32} (hf : f_X1_place (I 476) x1 = some r0) : q_Ct g m_X1_place d 0 0 [] [.ref 474, .int x1] (q_hp (t, r, m, z, N, ext, rx, L) I E) (fun o h' => o = .inl (some (.int r0)) ∧ h' = q_hp (t, r, m, z, N, ext, rx, L) (q_ws I []) (q_ws E [])) := by
  rw [f_X1_place] at hf
  refine q_Ct_of ok_X1_place (Nat.le_of_ble_eq_true rfl) ?_ _ rfl rfl
  change q_J g m_X1_place d 0 0 _ [] _ 0 0 (q_kc (t, r, m, z, N, ext, rx, L) I E 0 [some (.ref 474), some (.int x1)] [] [] [])
  refine q_blf 1 [] (a := q_kc (t, r, m, z, N, ext, rx, L) I E 10 [some (.ref 474), some (.int x1)] [] [] []) (b := q_kc (t, r, m, z, N, ext, rx, L) I E 2 [some (.ref 474), some (.int x1)] [] [] []) (P := x1 < 0) ok_X1_place rfl q_cn (fun h1 => ?_) (fun h1 => ?_)
  · have hf := q_ip h1 hf
    refine q_blk 1 [] (c' := q_kc (t, r, m, z, N, ext, rx, L) I E 11 [some (.ref 474), some (.int x1)] [.int (0 : Int32)] [] []) ok_X1_place rfl q_cn ?_
    cases hf
    exact q_kri ok_X1_place rfl rfl rfl (Nat.le_of_ble_eq_true rfl) (Nat.le_of_ble_eq_true rfl) ⟨rfl, q_hpe (q_fin [] rfl) (q_fin [] rfl)⟩
  · have hf := q_in h1 hf
    refine q_blf 2 [] (a := q_kc (t, r, m, z, N, ext, rx, L) I E 10 [some (.ref 474), some (.int x1)] [] [] []) (b := q_kc (t, r, m, z, N, ext, rx, L) I E 5 [some (.ref 474), some (.int x1)] [] [] []) (P := (128 : Int32) ≤ x1) ok_X1_place rfl q_cn (fun h2 => ?_) (fun h2 => ?_)
    · have hf := q_ip h2 hf
      refine q_blk 1 [] (c' := q_kc (t, r, m, z, N, ext, rx, L) I E 11 [some (.ref 474), some (.int x1)] [.int (0 : Int32)] [] []) ok_X1_place rfl q_cn ?_
      cases hf
      exact q_kri ok_X1_place rfl rfl rfl (Nat.le_of_ble_eq_true rfl) (Nat.le_of_ble_eq_true rfl) ⟨rfl, q_hpe (q_fin [] rfl) (q_fin [] rfl)⟩
    · have hf := q_in h2 hf
      obtain ⟨j3, hj3, hf⟩ := q_bd hf
      refine q_blk 5 [j3] (c' := q_kc (t, r, m, z, N, ext, rx, L) I E 11 [some (.ref 474), some (.int x1)] [.int ((I 476) j3)] [] []) ok_X1_place rfl (q_cc hj3 q_cn) ?_
      cases hf
      exact q_kri ok_X1_place rfl rfl rfl (Nat.le_of_ble_eq_true rfl) (Nat.le_of_ble_eq_true rfl) ⟨rfl, q_hpe (q_fin [] rfl) (q_fin [] rfl)⟩
set_option maxHeartbeats 4000000 in
theorem ct_X2_loftBaleFrom_473 {g : q_G} {t : Nat} {r : Nat} {m : Nat} {z : Nat} {N : Nat} {ext : Nat → q_Sh} {rx : Nat → Nat → Option Nat} {L : Nat → Nat → Int64} {d : Nat} (hd : 2 ≤ d)  {I : Nat → Nat → Int32} {E : Nat → Nat → Option Nat} {x1 : Int32} {r0 : Int32} (hf : f_X2_loftBaleFrom (I 476) (I 481) (I 482) x1 = some r0) : q_Ct g m_X2_loftBaleFrom d 0 0 [] [.ref 473, .int x1] (q_hp (t, r, m, z, N, ext, rx, L) I E) (fun o h' => o = .inl (some (.int r0)) ∧ h' = q_hp (t, r, m, z, N, ext, rx, L) (q_ws I []) (q_ws E [])) := by
  rw [f_X2_loftBaleFrom] at hf
  refine q_Ct_of ok_X2_loftBaleFrom (Nat.le_of_ble_eq_true rfl) ?_ _ rfl rfl
  change q_J g m_X2_loftBaleFrom d 0 0 _ [] _ 0 0 (q_kc (t, r, m, z, N, ext, rx, L) I E 0 [some (.ref 473), some (.int x1), none] [] [] [])
  refine q_blk 3 [] (c' := q_kc (t, r, m, z, N, ext, rx, L) I E 3 [some (.ref 473), some (.int x1), none] [.int x1, .ref 481] [] []) ok_X2_loftBaleFrom rfl q_cn ?_
  obtain ⟨r1, hr1, hf⟩ := q_bd hf
  refine q_kV (M2 := m_X5_at) (As := [.int x1]) (b := 481) (v2 := some (.int r1)) ok_X2_loftBaleFrom ok_X5_at cv_X5_at (ct_X5_at_481 (d := 1) (Nat.le_refl _) hr1) rfl rfl (Or.inl rfl) rfl rfl rfl rfl (Nat.le_trans (Nat.le_of_ble_eq_true rfl) hd) (Nat.le_of_ble_eq_true rfl) (Nat.le_of_ble_eq_true rfl) (Nat.le_of_ble_eq_true rfl) (fun x hx => absurd hx List.not_mem_nil) (q_nmL0 _) (q_nmS0 _) rfl (pos' := 4) (st' := [.int r1]) (lI' := []) (lE' := []) rfl rfl rfl rfl ?_
  refine q_blf 3 [] (a := q_kc (t, r, m, z, N, ext, rx, L) I E 16 [some (.ref 473), some (.int x1), some (.int r1)] [] [] []) (b := q_kc (t, r, m, z, N, ext, rx, L) I E 8 [some (.ref 473), some (.int x1), some (.int r1)] [] [] []) (P := r1 = (-1 : Int32)) ok_X2_loftBaleFrom rfl q_cn (fun h2 => ?_) (fun h2 => ?_)
  · have hf := q_ip h2 hf
    refine q_blk 1 [] (c' := q_kc (t, r, m, z, N, ext, rx, L) I E 17 [some (.ref 473), some (.int x1), some (.int r1)] [.int (-1 : Int32)] [] []) ok_X2_loftBaleFrom rfl q_cn ?_
    cases hf
    exact q_kri ok_X2_loftBaleFrom rfl rfl rfl (Nat.le_of_ble_eq_true rfl) (Nat.le_of_ble_eq_true rfl) ⟨rfl, q_hpe (q_fin [] rfl) (q_fin [] rfl)⟩
  · have hf := q_in h2 hf
    refine q_blk 3 [] (c' := q_kc (t, r, m, z, N, ext, rx, L) I E 11 [some (.ref 473), some (.int x1), some (.int r1)] [.int r1, .ref 474] [] []) ok_X2_loftBaleFrom rfl q_cn ?_
    obtain ⟨r3, hr3, hf⟩ := q_bd hf
    refine q_kV (M2 := m_X1_place) (As := [.int r1]) (b := 474) (v2 := some (.int r3)) ok_X2_loftBaleFrom ok_X1_place cv_X1_place (ct_X1_place_474 (d := 1) (Nat.le_refl _) hr3) rfl rfl (Or.inl rfl) rfl rfl rfl rfl (Nat.le_trans (Nat.le_of_ble_eq_true rfl) hd) (Nat.le_of_ble_eq_true rfl) (Nat.le_of_ble_eq_true rfl) (Nat.le_of_ble_eq_true rfl) (fun x hx => absurd hx List.not_mem_nil) (q_nmL0 _) (q_nmS0 _) rfl (pos' := 12) (st' := [.int r3]) (lI' := []) (lE' := []) rfl rfl rfl rfl ?_
    refine q_blf 1 [] (a := q_kc (t, r, m, z, N, ext, rx, L) I E 16 [some (.ref 473), some (.int x1), some (.int r1)] [] [] []) (b := q_kc (t, r, m, z, N, ext, rx, L) I E 14 [some (.ref 473), some (.int x1), some (.int r1)] [] [] []) (P := ¬ r3 = x1) ok_X2_loftBaleFrom rfl q_cn (fun h4 => ?_) (fun h4 => ?_)
    · have hf := q_ip h4 hf
      refine q_blk 1 [] (c' := q_kc (t, r, m, z, N, ext, rx, L) I E 17 [some (.ref 473), some (.int x1), some (.int r1)] [.int (-1 : Int32)] [] []) ok_X2_loftBaleFrom rfl q_cn ?_
      cases hf
      exact q_kri ok_X2_loftBaleFrom rfl rfl rfl (Nat.le_of_ble_eq_true rfl) (Nat.le_of_ble_eq_true rfl) ⟨rfl, q_hpe (q_fin [] rfl) (q_fin [] rfl)⟩
    · have hf := q_in h4 hf
      refine q_blk 2 [] (c' := q_kc (t, r, m, z, N, ext, rx, L) I E 17 [some (.ref 473), some (.int x1), some (.int r1)] [.int r1] [] []) ok_X2_loftBaleFrom rfl q_cn ?_
      cases hf
      exact q_kri ok_X2_loftBaleFrom rfl rfl rfl (Nat.le_of_ble_eq_true rfl) (Nat.le_of_ble_eq_true rfl) ⟨rfl, q_hpe (q_fin [] rfl) (q_fin [] rfl)⟩
set_option maxHeartbeats 4000000 in
theorem ct_X1_ropes_474 {g : q_G} {t : Nat} {r : Nat} {m : Nat} {z : Nat} {N : Nat} {ext : Nat → q_Sh} {rx : Nat → Nat → Option Nat} {L : Nat → Nat → Int64} {d : Nat} (hd : 1 ≤ d)  {I : Nat → Nat → Int32} {E : Nat → Nat → Option Nat} {x1 : Int32} {r0 : Int32} (hf : f_X1_ropes (I 479) x1 = some r0) : q_Ct g m_X1_ropes d 0 0 [] [.ref 474, .int x1] (q_hp (t, r, m, z, N, ext, rx, L) I E) (fun o h' => o = .inl (some (.int r0)) ∧ h' = q_hp (t, r, m, z, N, ext, rx, L) (q_ws I []) (q_ws E [])) := by
  rw [f_X1_ropes] at hf
  refine q_Ct_of ok_X1_ropes (Nat.le_of_ble_eq_true rfl) ?_ _ rfl rfl
  change q_J g m_X1_ropes d 0 0 _ [] _ 0 0 (q_kc (t, r, m, z, N, ext, rx, L) I E 0 [some (.ref 474), some (.int x1)] [] [] [])
  refine q_blf 1 [] (a := q_kc (t, r, m, z, N, ext, rx, L) I E 10 [some (.ref 474), some (.int x1)] [] [] []) (b := q_kc (t, r, m, z, N, ext, rx, L) I E 2 [some (.ref 474), some (.int x1)] [] [] []) (P := x1 < 0) ok_X1_ropes rfl q_cn (fun h1 => ?_) (fun h1 => ?_)
  · have hf := q_ip h1 hf
    refine q_blk 1 [] (c' := q_kc (t, r, m, z, N, ext, rx, L) I E 11 [some (.ref 474), some (.int x1)] [.int (0 : Int32)] [] []) ok_X1_ropes rfl q_cn ?_
    cases hf
    exact q_kri ok_X1_ropes rfl rfl rfl (Nat.le_of_ble_eq_true rfl) (Nat.le_of_ble_eq_true rfl) ⟨rfl, q_hpe (q_fin [] rfl) (q_fin [] rfl)⟩
  · have hf := q_in h1 hf
    refine q_blf 2 [] (a := q_kc (t, r, m, z, N, ext, rx, L) I E 10 [some (.ref 474), some (.int x1)] [] [] []) (b := q_kc (t, r, m, z, N, ext, rx, L) I E 5 [some (.ref 474), some (.int x1)] [] [] []) (P := (128 : Int32) ≤ x1) ok_X1_ropes rfl q_cn (fun h2 => ?_) (fun h2 => ?_)
    · have hf := q_ip h2 hf
      refine q_blk 1 [] (c' := q_kc (t, r, m, z, N, ext, rx, L) I E 11 [some (.ref 474), some (.int x1)] [.int (0 : Int32)] [] []) ok_X1_ropes rfl q_cn ?_
      cases hf
      exact q_kri ok_X1_ropes rfl rfl rfl (Nat.le_of_ble_eq_true rfl) (Nat.le_of_ble_eq_true rfl) ⟨rfl, q_hpe (q_fin [] rfl) (q_fin [] rfl)⟩
    · have hf := q_in h2 hf
      obtain ⟨j3, hj3, hf⟩ := q_bd hf
      refine q_blk 5 [j3] (c' := q_kc (t, r, m, z, N, ext, rx, L) I E 11 [some (.ref 474), some (.int x1)] [.int ((I 479) j3)] [] []) ok_X1_ropes rfl (q_cc hj3 q_cn) ?_
      cases hf
      exact q_kri ok_X1_ropes rfl rfl rfl (Nat.le_of_ble_eq_true rfl) (Nat.le_of_ble_eq_true rfl) ⟨rfl, q_hpe (q_fin [] rfl) (q_fin [] rfl)⟩
set_option maxHeartbeats 4000000 in
theorem ct_X4_has_483 {g : q_G} {t : Nat} {r : Nat} {m : Nat} {z : Nat} {N : Nat} {ext : Nat → q_Sh} {rx : Nat → Nat → Option Nat} {L : Nat → Nat → Int64} {d : Nat} (hd : 1 ≤ d)  {I : Nat → Nat → Int32} {E : Nat → Nat → Option Nat} {x1 : Int32} {r0 : Bool} (hf : f_X4_has (I 485) x1 = some r0) : q_Ct g m_X4_has d 0 0 [] [.ref 483, .int x1] (q_hp (t, r, m, z, N, ext, rx, L) I E) (fun o h' => o = .inl (some (.int (q_bz r0))) ∧ h' = q_hp (t, r, m, z, N, ext, rx, L) (q_ws I []) (q_ws E [])) := by
  rw [f_X4_has] at hf
  refine q_Ct_of ok_X4_has (Nat.le_of_ble_eq_true rfl) ?_ _ rfl rfl
  change q_J g m_X4_has d 0 0 _ [] _ 0 0 (q_kc (t, r, m, z, N, ext, rx, L) I E 0 [some (.ref 483), some (.int x1)] [] [] [])
  refine q_blf 1 [] (a := q_kc (t, r, m, z, N, ext, rx, L) I E 13 [some (.ref 483), some (.int x1)] [] [] []) (b := q_kc (t, r, m, z, N, ext, rx, L) I E 2 [some (.ref 483), some (.int x1)] [] [] []) (P := x1 < 0) ok_X4_has rfl q_cn (fun h1 => ?_) (fun h1 => ?_)
  · have hf := q_ip h1 hf
    refine q_blk 1 [] (c' := q_kc (t, r, m, z, N, ext, rx, L) I E 14 [some (.ref 483), some (.int x1)] [.int (0 : Int32)] [] []) ok_X4_has rfl q_cn ?_
    cases hf
    exact q_kri ok_X4_has rfl rfl rfl (Nat.le_of_ble_eq_true rfl) (Nat.le_of_ble_eq_true rfl) ⟨rfl, q_hpe (q_fin [] rfl) (q_fin [] rfl)⟩
  · have hf := q_in h1 hf
    refine q_blf 2 [] (a := q_kc (t, r, m, z, N, ext, rx, L) I E 13 [some (.ref 483), some (.int x1)] [] [] []) (b := q_kc (t, r, m, z, N, ext, rx, L) I E 5 [some (.ref 483), some (.int x1)] [] [] []) (P := (128 : Int32) ≤ x1) ok_X4_has rfl q_cn (fun h2 => ?_) (fun h2 => ?_)
    · have hf := q_ip h2 hf
      refine q_blk 1 [] (c' := q_kc (t, r, m, z, N, ext, rx, L) I E 14 [some (.ref 483), some (.int x1)] [.int (0 : Int32)] [] []) ok_X4_has rfl q_cn ?_
      cases hf
      exact q_kri ok_X4_has rfl rfl rfl (Nat.le_of_ble_eq_true rfl) (Nat.le_of_ble_eq_true rfl) ⟨rfl, q_hpe (q_fin [] rfl) (q_fin [] rfl)⟩
    · have hf := q_in h2 hf
      obtain ⟨j3, hj3, hf⟩ := q_bd hf
      refine q_blf 5 [j3] (a := q_kc (t, r, m, z, N, ext, rx, L) I E 13 [some (.ref 483), some (.int x1)] [] [] []) (b := q_kc (t, r, m, z, N, ext, rx, L) I E 11 [some (.ref 483), some (.int x1)] [] [] []) (P := ((I 485) j3) = (-1 : Int32)) ok_X4_has rfl (q_cc hj3 q_cn) (fun h4 => ?_) (fun h4 => ?_)
      · have hf := q_ip h4 hf
        refine q_blk 1 [] (c' := q_kc (t, r, m, z, N, ext, rx, L) I E 14 [some (.ref 483), some (.int x1)] [.int (0 : Int32)] [] []) ok_X4_has rfl q_cn ?_
        cases hf
        exact q_kri ok_X4_has rfl rfl rfl (Nat.le_of_ble_eq_true rfl) (Nat.le_of_ble_eq_true rfl) ⟨rfl, q_hpe (q_fin [] rfl) (q_fin [] rfl)⟩
      · have hf := q_in h4 hf
        refine q_blk 2 [] (c' := q_kc (t, r, m, z, N, ext, rx, L) I E 14 [some (.ref 483), some (.int x1)] [.int (1 : Int32)] [] []) ok_X4_has rfl q_cn ?_
        cases hf
        exact q_kri ok_X4_has rfl rfl rfl (Nat.le_of_ble_eq_true rfl) (Nat.le_of_ble_eq_true rfl) ⟨rfl, q_hpe (q_fin [] rfl) (q_fin [] rfl)⟩
set_option maxHeartbeats 4000000 in
theorem ct_X1_hasRope_474 {g : q_G} {t : Nat} {r : Nat} {m : Nat} {z : Nat} {N : Nat} {ext : Nat → q_Sh} {rx : Nat → Nat → Option Nat} {L : Nat → Nat → Int64} {d : Nat} (hd : 1 ≤ d)  {I : Nat → Nat → Int32} {E : Nat → Nat → Option Nat} {x1 : Int32} {x2 : Int32} {r0 : Bool} (hf : f_X1_hasRope (I 479) x1 x2 = some r0) : q_Ct g m_X1_hasRope d 0 0 [] [.ref 474, .int x1, .int x2] (q_hp (t, r, m, z, N, ext, rx, L) I E) (fun o h' => o = .inl (some (.int (q_bz r0))) ∧ h' = q_hp (t, r, m, z, N, ext, rx, L) (q_ws I []) (q_ws E [])) := by
  rw [f_X1_hasRope] at hf
  refine q_Ct_of ok_X1_hasRope (Nat.le_of_ble_eq_true rfl) ?_ _ rfl rfl
  change q_J g m_X1_hasRope d 0 0 _ [] _ 0 0 (q_kc (t, r, m, z, N, ext, rx, L) I E 0 [some (.ref 474), some (.int x1), some (.int x2)] [] [] [])
  refine q_blf 1 [] (a := q_kc (t, r, m, z, N, ext, rx, L) I E 18 [some (.ref 474), some (.int x1), some (.int x2)] [] [] []) (b := q_kc (t, r, m, z, N, ext, rx, L) I E 2 [some (.ref 474), some (.int x1), some (.int x2)] [] [] []) (P := x1 < 0) ok_X1_hasRope rfl q_cn (fun h1 => ?_) (fun h1 => ?_)
  · have hf := q_ip h1 hf
    refine q_blk 1 [] (c' := q_kc (t, r, m, z, N, ext, rx, L) I E 19 [some (.ref 474), some (.int x1), some (.int x2)] [.int (0 : Int32)] [] []) ok_X1_hasRope rfl q_cn ?_
    cases hf
    exact q_kri ok_X1_hasRope rfl rfl rfl (Nat.le_of_ble_eq_true rfl) (Nat.le_of_ble_eq_true rfl) ⟨rfl, q_hpe (q_fin [] rfl) (q_fin [] rfl)⟩
  · have hf := q_in h1 hf
    refine q_blf 2 [] (a := q_kc (t, r, m, z, N, ext, rx, L) I E 18 [some (.ref 474), some (.int x1), some (.int x2)] [] [] []) (b := q_kc (t, r, m, z, N, ext, rx, L) I E 5 [some (.ref 474), some (.int x1), some (.int x2)] [] [] []) (P := (128 : Int32) ≤ x1) ok_X1_hasRope rfl q_cn (fun h2 => ?_) (fun h2 => ?_)
    · have hf := q_ip h2 hf
      refine q_blk 1 [] (c' := q_kc (t, r, m, z, N, ext, rx, L) I E 19 [some (.ref 474), some (.int x1), some (.int x2)] [.int (0 : Int32)] [] []) ok_X1_hasRope rfl q_cn ?_
      cases hf
      exact q_kri ok_X1_hasRope rfl rfl rfl (Nat.le_of_ble_eq_true rfl) (Nat.le_of_ble_eq_true rfl) ⟨rfl, q_hpe (q_fin [] rfl) (q_fin [] rfl)⟩
    · have hf := q_in h2 hf
      refine q_blf 1 [] (a := q_kc (t, r, m, z, N, ext, rx, L) I E 18 [some (.ref 474), some (.int x1), some (.int x2)] [] [] []) (b := q_kc (t, r, m, z, N, ext, rx, L) I E 7 [some (.ref 474), some (.int x1), some (.int x2)] [] [] []) (P := x2 < 0) ok_X1_hasRope rfl q_cn (fun h3 => ?_) (fun h3 => ?_)
      · have hf := q_ip h3 hf
        refine q_blk 1 [] (c' := q_kc (t, r, m, z, N, ext, rx, L) I E 19 [some (.ref 474), some (.int x1), some (.int x2)] [.int (0 : Int32)] [] []) ok_X1_hasRope rfl q_cn ?_
        cases hf
        exact q_kri ok_X1_hasRope rfl rfl rfl (Nat.le_of_ble_eq_true rfl) (Nat.le_of_ble_eq_true rfl) ⟨rfl, q_hpe (q_fin [] rfl) (q_fin [] rfl)⟩
      · have hf := q_in h3 hf
        refine q_blf 2 [] (a := q_kc (t, r, m, z, N, ext, rx, L) I E 18 [some (.ref 474), some (.int x1), some (.int x2)] [] [] []) (b := q_kc (t, r, m, z, N, ext, rx, L) I E 10 [some (.ref 474), some (.int x1), some (.int x2)] [] [] []) (P := (3 : Int32) ≤ x2) ok_X1_hasRope rfl q_cn (fun h4 => ?_) (fun h4 => ?_)
        · have hf := q_ip h4 hf
          refine q_blk 1 [] (c' := q_kc (t, r, m, z, N, ext, rx, L) I E 19 [some (.ref 474), some (.int x1), some (.int x2)] [.int (0 : Int32)] [] []) ok_X1_hasRope rfl q_cn ?_
          cases hf
          exact q_kri ok_X1_hasRope rfl rfl rfl (Nat.le_of_ble_eq_true rfl) (Nat.le_of_ble_eq_true rfl) ⟨rfl, q_hpe (q_fin [] rfl) (q_fin [] rfl)⟩
        · have hf := q_in h4 hf
          obtain ⟨j5, hj5, hf⟩ := q_bd hf
          refine q_blf 5 [j5] (a := q_kc (t, r, m, z, N, ext, rx, L) I E 18 [some (.ref 474), some (.int x1), some (.int x2)] [] [] []) (b := q_kc (t, r, m, z, N, ext, rx, L) I E 16 [some (.ref 474), some (.int x1), some (.int x2)] [] [] []) (P := ((I 479) j5) ≤ x2) ok_X1_hasRope rfl (q_cc hj5 q_cn) (fun h6 => ?_) (fun h6 => ?_)
          · have hf := q_ip h6 hf
            refine q_blk 1 [] (c' := q_kc (t, r, m, z, N, ext, rx, L) I E 19 [some (.ref 474), some (.int x1), some (.int x2)] [.int (0 : Int32)] [] []) ok_X1_hasRope rfl q_cn ?_
            cases hf
            exact q_kri ok_X1_hasRope rfl rfl rfl (Nat.le_of_ble_eq_true rfl) (Nat.le_of_ble_eq_true rfl) ⟨rfl, q_hpe (q_fin [] rfl) (q_fin [] rfl)⟩
          · have hf := q_in h6 hf
            refine q_blk 2 [] (c' := q_kc (t, r, m, z, N, ext, rx, L) I E 19 [some (.ref 474), some (.int x1), some (.int x2)] [.int (1 : Int32)] [] []) ok_X1_hasRope rfl q_cn ?_
            cases hf
            exact q_kri ok_X1_hasRope rfl rfl rfl (Nat.le_of_ble_eq_true rfl) (Nat.le_of_ble_eq_true rfl) ⟨rfl, q_hpe (q_fin [] rfl) (q_fin [] rfl)⟩
set_option maxHeartbeats 4000000 in
theorem ct_X1_lead_474 {g : q_G} {t : Nat} {r : Nat} {m : Nat} {z : Nat} {N : Nat} {ext : Nat → q_Sh} {rx : Nat → Nat → Option Nat} {L : Nat → Nat → Int64} {d : Nat} (hd : 2 ≤ d)  {I : Nat → Nat → Int32} {E : Nat → Nat → Option Nat} {x1 : Int32} {x2 : Int32} {r0 : Int32} (hf : f_X1_lead (I 479) (I 480) x1 x2 = some r0) : q_Ct g m_X1_lead d 0 0 [] [.ref 474, .int x1, .int x2] (q_hp (t, r, m, z, N, ext, rx, L) I E) (fun o h' => o = .inl (some (.int r0)) ∧ h' = q_hp (t, r, m, z, N, ext, rx, L) (q_ws I []) (q_ws E [])) := by
  rw [f_X1_lead] at hf
  refine q_Ct_of ok_X1_lead (Nat.le_of_ble_eq_true rfl) ?_ _ rfl rfl
  change q_J g m_X1_lead d 0 0 _ [] _ 0 0 (q_kc (t, r, m, z, N, ext, rx, L) I E 0 [some (.ref 474), some (.int x1), some (.int x2)] [] [] [])
  refine q_blk 3 [] (c' := q_kc (t, r, m, z, N, ext, rx, L) I E 3 [some (.ref 474), some (.int x1), some (.int x2)] [.int x2, .int x1, .ref 474] [] []) ok_X1_lead rfl q_cn ?_
  obtain ⟨r1, hr1, hf⟩ := q_bd hf
  refine q_kV (M2 := m_X1_hasRope) (As := [.int x1, .int x2]) (b := 474) (v2 := some (.int (q_bz r1))) ok_X1_lead ok_X1_hasRope cv_X1_hasRope (ct_X1_hasRope_474 (d := 1) (Nat.le_refl _) hr1) rfl rfl (Or.inl rfl) rfl rfl rfl rfl (Nat.le_trans (Nat.le_of_ble_eq_true rfl) hd) (Nat.le_of_ble_eq_true rfl) (Nat.le_of_ble_eq_true rfl) (Nat.le_of_ble_eq_true rfl) (fun x hx => absurd hx List.not_mem_nil) (q_nmL0 _) (q_nmS0 _) rfl (pos' := 4) (st' := [.int (q_bz r1)]) (lI' := []) (lE' := []) rfl rfl rfl rfl ?_
  refine q_blf 0 [] (a := q_kc (t, r, m, z, N, ext, rx, L) I E 14 [some (.ref 474), some (.int x1), some (.int x2)] [] [] []) (b := q_kc (t, r, m, z, N, ext, rx, L) I E 5 [some (.ref 474), some (.int x1), some (.int x2)] [] [] []) (P := (q_bz r1) = 0) ok_X1_lead rfl q_cn (fun h2 => ?_) (fun h2 => ?_)
  · have hf := q_ip h2 hf
    refine q_blk 1 [] (c' := q_kc (t, r, m, z, N, ext, rx, L) I E 15 [some (.ref 474), some (.int x1), some (.int x2)] [.int (-1 : Int32)] [] []) ok_X1_lead rfl q_cn ?_
    cases hf
    exact q_kri ok_X1_lead rfl rfl rfl (Nat.le_of_ble_eq_true rfl) (Nat.le_of_ble_eq_true rfl) ⟨rfl, q_hpe (q_fin [] rfl) (q_fin [] rfl)⟩
  · have hf := q_in h2 hf
    obtain ⟨j3, hj3, hf⟩ := q_bd hf
    refine q_blk 9 [j3] (c' := q_kc (t, r, m, z, N, ext, rx, L) I E 15 [some (.ref 474), some (.int x1), some (.int x2)] [.int ((I 480) j3)] [] []) ok_X1_lead rfl (q_cc hj3 q_cn) ?_
    cases hf
    exact q_kri ok_X1_lead rfl rfl rfl (Nat.le_of_ble_eq_true rfl) (Nat.le_of_ble_eq_true rfl) ⟨rfl, q_hpe (q_fin [] rfl) (q_fin [] rfl)⟩
set_option maxHeartbeats 4000000 in
theorem ct_X4_length_483 {g : q_G} {t : Nat} {r : Nat} {m : Nat} {z : Nat} {N : Nat} {ext : Nat → q_Sh} {rx : Nat → Nat → Option Nat} {L : Nat → Nat → Int64} {d : Nat} (hd : 1 ≤ d)  {I : Nat → Nat → Int32} {E : Nat → Nat → Option Nat} {r0 : Int32} (hf : f_X4_length (I 483) = some r0) : q_Ct g m_X4_length d 0 0 [] [.ref 483] (q_hp (t, r, m, z, N, ext, rx, L) I E) (fun o h' => o = .inl (some (.int r0)) ∧ h' = q_hp (t, r, m, z, N, ext, rx, L) (q_ws I []) (q_ws E [])) := by
  rw [f_X4_length] at hf
  refine q_Ct_of ok_X4_length (Nat.le_of_ble_eq_true rfl) ?_ _ rfl rfl
  change q_J g m_X4_length d 0 0 _ [] _ 0 0 (q_kc (t, r, m, z, N, ext, rx, L) I E 0 [some (.ref 483)] [] [] [])
  refine q_blk 2 [] (c' := q_kc (t, r, m, z, N, ext, rx, L) I E 2 [some (.ref 483)] [.int ((I 483) 2)] [] []) ok_X4_length rfl q_cn ?_
  cases hf
  exact q_kri ok_X4_length rfl rfl rfl (Nat.le_of_ble_eq_true rfl) (Nat.le_of_ble_eq_true rfl) ⟨rfl, q_hpe (q_fin [] rfl) (q_fin [] rfl)⟩
set_option maxHeartbeats 4000000 in
theorem ct_X4_at_483 {g : q_G} {t : Nat} {r : Nat} {m : Nat} {z : Nat} {N : Nat} {ext : Nat → q_Sh} {rx : Nat → Nat → Option Nat} {L : Nat → Nat → Int64} {d : Nat} (hd : 1 ≤ d)  {I : Nat → Nat → Int32} {E : Nat → Nat → Option Nat} {x1 : Int32} {r0 : Int32} (hf : f_X4_at (I 483) (I 484) x1 = some r0) : q_Ct g m_X4_at d 0 0 [] [.ref 483, .int x1] (q_hp (t, r, m, z, N, ext, rx, L) I E) (fun o h' => o = .inl (some (.int r0)) ∧ h' = q_hp (t, r, m, z, N, ext, rx, L) (q_ws I []) (q_ws E [])) := by
  rw [f_X4_at] at hf
  refine q_Ct_of ok_X4_at (Nat.le_of_ble_eq_true rfl) ?_ _ rfl rfl
  change q_J g m_X4_at d 0 0 _ [] _ 0 0 (q_kc (t, r, m, z, N, ext, rx, L) I E 0 [some (.ref 483), some (.int x1)] [] [] [])
  refine q_blf 1 [] (a := q_kc (t, r, m, z, N, ext, rx, L) I E 14 [some (.ref 483), some (.int x1)] [] [] []) (b := q_kc (t, r, m, z, N, ext, rx, L) I E 2 [some (.ref 483), some (.int x1)] [] [] []) (P := x1 < 0) ok_X4_at rfl q_cn (fun h1 => ?_) (fun h1 => ?_)
  · have hf := q_ip h1 hf
    refine q_blk 1 [] (c' := q_kc (t, r, m, z, N, ext, rx, L) I E 15 [some (.ref 483), some (.int x1)] [.int (-1 : Int32)] [] []) ok_X4_at rfl q_cn ?_
    cases hf
    exact q_kri ok_X4_at rfl rfl rfl (Nat.le_of_ble_eq_true rfl) (Nat.le_of_ble_eq_true rfl) ⟨rfl, q_hpe (q_fin [] rfl) (q_fin [] rfl)⟩
  · have hf := q_in h1 hf
    refine q_blf 3 [] (a := q_kc (t, r, m, z, N, ext, rx, L) I E 14 [some (.ref 483), some (.int x1)] [] [] []) (b := q_kc (t, r, m, z, N, ext, rx, L) I E 6 [some (.ref 483), some (.int x1)] [] [] []) (P := ((I 483) 2) ≤ x1) ok_X4_at rfl q_cn (fun h2 => ?_) (fun h2 => ?_)
    · have hf := q_ip h2 hf
      refine q_blk 1 [] (c' := q_kc (t, r, m, z, N, ext, rx, L) I E 15 [some (.ref 483), some (.int x1)] [.int (-1 : Int32)] [] []) ok_X4_at rfl q_cn ?_
      cases hf
      exact q_kri ok_X4_at rfl rfl rfl (Nat.le_of_ble_eq_true rfl) (Nat.le_of_ble_eq_true rfl) ⟨rfl, q_hpe (q_fin [] rfl) (q_fin [] rfl)⟩
    · have hf := q_in h2 hf
      refine q_blf 2 [] (a := q_kc (t, r, m, z, N, ext, rx, L) I E 14 [some (.ref 483), some (.int x1)] [] [] []) (b := q_kc (t, r, m, z, N, ext, rx, L) I E 9 [some (.ref 483), some (.int x1)] [] [] []) (P := (128 : Int32) ≤ x1) ok_X4_at rfl q_cn (fun h3 => ?_) (fun h3 => ?_)
      · have hf := q_ip h3 hf
        refine q_blk 1 [] (c' := q_kc (t, r, m, z, N, ext, rx, L) I E 15 [some (.ref 483), some (.int x1)] [.int (-1 : Int32)] [] []) ok_X4_at rfl q_cn ?_
        cases hf
        exact q_kri ok_X4_at rfl rfl rfl (Nat.le_of_ble_eq_true rfl) (Nat.le_of_ble_eq_true rfl) ⟨rfl, q_hpe (q_fin [] rfl) (q_fin [] rfl)⟩
      · have hf := q_in h3 hf
        obtain ⟨j4, hj4, hf⟩ := q_bd hf
        refine q_blk 5 [j4] (c' := q_kc (t, r, m, z, N, ext, rx, L) I E 15 [some (.ref 483), some (.int x1)] [.int ((I 484) j4)] [] []) ok_X4_at rfl (q_cc hj4 q_cn) ?_
        cases hf
        exact q_kri ok_X4_at rfl rfl rfl (Nat.le_of_ble_eq_true rfl) (Nat.le_of_ble_eq_true rfl) ⟨rfl, q_hpe (q_fin [] rfl) (q_fin [] rfl)⟩
set_option maxHeartbeats 4000000 in
theorem ct_X1_remove_474 {g : q_G} {t : Nat} {r : Nat} {m : Nat} {z : Nat} {N : Nat} {ext : Nat → q_Sh} {rx : Nat → Nat → Option Nat} {L : Nat → Nat → Int64} {d : Nat} (hd : 1 ≤ d)  {I : Nat → Nat → Int32} {E : Nat → Nat → Option Nat} {x1 : Int32} {r0 : (Nat → Int32)} (hf : f_X1_remove (I 475) x1 = some r0) : q_Ct g m_X1_remove d 0 0 [] [.ref 474, .int x1] (q_hp (t, r, m, z, N, ext, rx, L) I E) (fun o h' => o = .inl none ∧ h' = q_hp (t, r, m, z, N, ext, rx, L) (q_ws I [(475, r0)]) (q_ws E [])) := by
  rw [f_X1_remove] at hf
  refine q_Ct_of ok_X1_remove (Nat.le_of_ble_eq_true rfl) ?_ _ rfl rfl
  change q_J g m_X1_remove d 0 0 _ [] _ 0 0 (q_kc (t, r, m, z, N, ext, rx, L) I E 0 [some (.ref 474), some (.int x1)] [] [] [])
  refine q_blf 1 [] (a := q_kc (t, r, m, z, N, ext, rx, L) I E 10 [some (.ref 474), some (.int x1)] [] [] []) (b := q_kc (t, r, m, z, N, ext, rx, L) I E 2 [some (.ref 474), some (.int x1)] [] [] []) (P := x1 < 0) ok_X1_remove rfl q_cn (fun h1 => ?_) (fun h1 => ?_)
  · have hf := q_ip h1 hf
    cases hf
    exact q_krv ok_X1_remove rfl rfl (Nat.le_of_ble_eq_true rfl) (Nat.le_of_ble_eq_true rfl) ⟨rfl, q_hpe (q_fin [475] rfl) (q_fin [] rfl)⟩
  · have hf := q_in h1 hf
    refine q_blf 2 [] (a := q_kc (t, r, m, z, N, ext, rx, L) I E 10 [some (.ref 474), some (.int x1)] [] [] []) (b := q_kc (t, r, m, z, N, ext, rx, L) I E 5 [some (.ref 474), some (.int x1)] [] [] []) (P := (128 : Int32) ≤ x1) ok_X1_remove rfl q_cn (fun h2 => ?_) (fun h2 => ?_)
    · have hf := q_ip h2 hf
      cases hf
      exact q_krv ok_X1_remove rfl rfl (Nat.le_of_ble_eq_true rfl) (Nat.le_of_ble_eq_true rfl) ⟨rfl, q_hpe (q_fin [475] rfl) (q_fin [] rfl)⟩
    · have hf := q_in h2 hf
      obtain ⟨j3, hj3, hf⟩ := q_bd hf
      refine q_blk 5 [j3] (c' := q_kc (t, r, m, z, N, ext, rx, L) I E 10 [some (.ref 474), some (.int x1)] [] [(475, (q_up (I 475) j3 (0 : Int32)))] []) ok_X1_remove rfl (q_cc hj3 q_cn) ?_
      cases hf
      exact q_krv ok_X1_remove rfl rfl (Nat.le_of_ble_eq_true rfl) (Nat.le_of_ble_eq_true rfl) ⟨rfl, q_hpe (q_fin [475] rfl) (q_fin [] rfl)⟩
set_option maxHeartbeats 4000000 in
theorem lp_X2_loseRest_L4_473_488 {g : q_G} {d mc ms : Nat} {h0 : q_H} {Q : (Option Value ⊕ String) → q_H → Prop} {k n : Nat} {t : Nat} {r : Nat} {m : Nat} {z : Nat} {N : Nat} {ext : Nat → q_Sh} {rx : Nat → Nat → Option Nat} {L : Nat → Nat → Int64} (hd : 2 ≤ d) (hk : k ≤ mc) (hn : n ≤ ms)  {v2 : Int32} : ∀ (fu : Nat) {I : Nat → Nat → Int32} {E : Nat → Nat → Option Nat} {v3 : Int32} {v4 : Int32} {r0 : Int32 × (Nat → Int32)} (hf : f_X2_loseRest_L4 (I 485) (I 488) v2 fu (I 475) v3 v4 = some r0) (hK0 : q_J g m_X2_loseRest d mc ms h0 [] Q k n (q_kc (t, r, m, z, N, ext, rx, L) I E 27 [some (.ref 473), none, none, some (.int r0.1), none] [] [(475, r0.2)] [])), q_J g m_X2_loseRest d mc ms h0 [] Q k n (4, [some (.ref 473), some (.ref 488), some (.int v2), some (.int v3), some (.int v4)], [], q_hp (t, r, m, z, N, ext, rx, L) I E) := by
  intro fu
  induction fu with
  | zero =>
    intro I E v3 v4 r0 hf hK0
    rw [f_X2_loseRest_L4] at hf
    cases hf
  | succ fu ih =>
    intro I E v3 v4 r0 hf hK0
    rw [f_X2_loseRest_L4] at hf
    change q_J g m_X2_loseRest d mc ms h0 [] Q k n (q_kc (t, r, m, z, N, ext, rx, L) I E 4 [some (.ref 473), some (.ref 488), some (.int v2), some (.int v3), some (.int v4)] [] [] [])
    refine q_blf 2 [] (a := q_kc (t, r, m, z, N, ext, rx, L) I E 27 [some (.ref 473), some (.ref 488), some (.int v2), some (.int v3), some (.int v4)] [] [] []) (b := q_kc (t, r, m, z, N, ext, rx, L) I E 7 [some (.ref 473), some (.ref 488), some (.int v2), some (.int v3), some (.int v4)] [] [] []) (P := v2 ≤ v4) ok_X2_loseRest rfl q_cn (fun h1 => ?_) (fun h1 => ?_)
    · have hf := q_ip h1 hf
      refine q_less (ls' := [some (.ref 473), none, none, some (.int v3), none]) (q_sb2 (q_sb1 (q_sb1 (q_sb2 (q_sb1 q_sb0))))) ?_
      cases hf
      exact q_Jpad [475] [] rfl rfl hK0
    · have hf := q_in h1 hf
      refine q_blf 3 [] (a := q_kc (t, r, m, z, N, ext, rx, L) I E 27 [some (.ref 473), some (.ref 488), some (.int v2), some (.int v3), some (.int v4)] [] [] []) (b := q_kc (t, r, m, z, N, ext, rx, L) I E 11 [some (.ref 473), some (.ref 488), some (.int v2), some (.int v3), some (.int v4)] [] [] []) (P := (nI 64) ≤ v4) ok_X2_loseRest rfl q_cn (fun h2 => ?_) (fun h2 => ?_)
      · have hf := q_ip h2 hf
        refine q_less (ls' := [some (.ref 473), none, none, some (.int v3), none]) (q_sb2 (q_sb1 (q_sb1 (q_sb2 (q_sb1 q_sb0))))) ?_
        cases hf
        exact q_Jpad [475] [] rfl rfl hK0
      · have hf := q_in h2 hf
        obtain ⟨j3, hj3, hf⟩ := q_bd hf
        refine q_blk 5 [j3] (c' := q_kc (t, r, m, z, N, ext, rx, L) I E 16 [some (.ref 473), some (.ref 488), some (.int v2), some (.int v3), some (.int v4)] [.int ((I 488) j3), .ref 483] [] []) ok_X2_loseRest rfl (q_cc hj3 q_cn) ?_
        obtain ⟨r4, hr4, hf⟩ := q_bd hf
        refine q_kV (M2 := m_X4_has) (As := [.int ((I 488) j3)]) (b := 483) (v2 := some (.int (q_bz r4))) ok_X2_loseRest ok_X4_has cv_X4_has (ct_X4_has_483 (d := 1) (Nat.le_refl _) hr4) rfl rfl (Or.inl rfl) rfl rfl rfl rfl (Nat.le_trans (Nat.le_of_ble_eq_true rfl) hd) hk hn (Nat.le_of_ble_eq_true rfl) (fun x hx => absurd hx List.not_mem_nil) (q_nmL0 _) (q_nmS0 _) rfl (pos' := 17) (st' := [.int (q_bz r4)]) (lI' := []) (lE' := []) rfl rfl rfl rfl ?_
        refine q_blf 0 [] (a := q_kc (t, r, m, z, N, ext, rx, L) I E 25 [some (.ref 473), some (.ref 488), some (.int v2), some (.int v3), some (.int v4)] [] [] []) (b := q_kc (t, r, m, z, N, ext, rx, L) I E 18 [some (.ref 473), some (.ref 488), some (.int v2), some (.int v3), some (.int v4)] [] [] []) (P := ¬ (q_bz r4) = 0) ok_X2_loseRest rfl q_cn (fun h5 => ?_) (fun h5 => ?_)
        · have hf := q_ip h5 hf
          refine q_blk 2 [] (c' := q_kc (t, r, m, z, N, ext, rx, L) I E 4 [some (.ref 473), some (.ref 488), some (.int v2), some (.int v3), some (.int (v4 + 1))] [] [] []) ok_X2_loseRest rfl q_cn ?_
          exact ih (I := q_ws I []) (E := q_ws E []) hf (q_Jmrg rfl rfl hK0)
        · have hf := q_in h5 hf
          obtain ⟨j6, hj6, hf⟩ := q_bd hf
          refine q_blk 5 [j6] (c' := q_kc (t, r, m, z, N, ext, rx, L) I E 23 [some (.ref 473), some (.ref 488), some (.int v2), some (.int v3), some (.int v4)] [.int ((I 488) j6), .ref 474] [] []) ok_X2_loseRest rfl (q_cc hj6 q_cn) ?_
          obtain ⟨r7, hr7, hf⟩ := q_bd hf
          refine q_kV (M2 := m_X1_remove) (As := [.int ((I 488) j6)]) (b := 474) (v2 := none) ok_X2_loseRest ok_X1_remove cv_X1_remove (ct_X1_remove_474 (d := 1) (Nat.le_refl _) hr7) rfl rfl (Or.inl rfl) rfl rfl rfl rfl (Nat.le_trans (Nat.le_of_ble_eq_true rfl) hd) hk hn (Nat.le_of_ble_eq_true rfl) (fun x hx => absurd hx List.not_mem_nil) (q_nmL0 _) (q_nmS0 _) rfl (pos' := 24) (st' := []) (lI' := [(475, r7)]) (lE' := []) rfl rfl rfl rfl ?_
          refine q_blk 3 [] (c' := q_kc (t, r, m, z, N, ext, rx, L) I E 4 [some (.ref 473), some (.ref 488), some (.int v2), some (.int (v3 + 1)), some (.int (v4 + 1))] [] [(475, r7)] []) ok_X2_loseRest rfl q_cn ?_
          exact ih (I := q_ws I [(475, r7)]) (E := q_ws E []) hf (q_Jmrg rfl rfl hK0)
set_option maxHeartbeats 4000000 in
theorem ct_X2_loseRest_473_488 {g : q_G} {t : Nat} {r : Nat} {m : Nat} {z : Nat} {N : Nat} {ext : Nat → q_Sh} {rx : Nat → Nat → Option Nat} {L : Nat → Nat → Int64} {d : Nat} (hd : 2 ≤ d)  {I : Nat → Nat → Int32} {E : Nat → Nat → Option Nat} {x2 : Int32} {r0 : Int32 × (Nat → Int32) × (Nat → Int32)} (hf : f_X2_loseRest (I 473) (I 475) (I 485) (I 488) x2 = some r0) : q_Ct g m_X2_loseRest d 0 0 [] [.ref 473, .ref 488, .int x2] (q_hp (t, r, m, z, N, ext, rx, L) I E) (fun o h' => o = .inl (some (.int r0.1)) ∧ h' = q_hp (t, r, m, z, N, ext, rx, L) (q_ws I [(473, r0.2.1), (475, r0.2.2)]) (q_ws E [])) := by
  rw [f_X2_loseRest] at hf
  refine q_Ct_of ok_X2_loseRest (Nat.le_of_ble_eq_true rfl) ?_ _ rfl rfl
  change q_J g m_X2_loseRest d 0 0 _ [] _ 0 0 (q_kc (t, r, m, z, N, ext, rx, L) I E 0 [some (.ref 473), some (.ref 488), some (.int x2), none, none] [] [] [])
  refine q_blk 4 [] (c' := q_kc (t, r, m, z, N, ext, rx, L) I E 4 [some (.ref 473), some (.ref 488), some (.int x2), some (.int (0 : Int32)), some (.int (0 : Int32))] [] [] []) ok_X2_loseRest rfl q_cn ?_
  obtain ⟨r8, hr8, hf⟩ := q_bd hf
  refine lp_X2_loseRest_L4_473_488 (I := q_ws I []) (E := q_ws E []) hd (Nat.le_of_ble_eq_true rfl) (Nat.le_of_ble_eq_true rfl) 4096 hr8 ?_
  refine q_Jmrg (lI' := [(475, r8.2)]) (lE' := []) rfl rfl ?_
  refine q_blk 7 [] (c' := q_kc (t, r, m, z, N, ext, rx, L) I E 34 [some (.ref 473), none, none, some (.int r8.1), none] [.int r8.1] [(473, (q_up (I 473) 14 (((I 473) 14) + r8.1))), (475, r8.2)] []) ok_X2_loseRest rfl q_cn ?_
  cases hf
  exact q_kri ok_X2_loseRest rfl rfl rfl (Nat.le_of_ble_eq_true rfl) (Nat.le_of_ble_eq_true rfl) ⟨rfl, q_hpe (q_fin [473, 475] rfl) (q_fin [] rfl)⟩
set_option maxHeartbeats 4000000 in
theorem lp_X2_copyHalf_L36_473 {g : q_G} {d mc ms : Nat} {h0 : q_H} {Q : (Option Value ⊕ String) → q_H → Prop} {k n : Nat} {r : Nat} {m : Nat} {z : Nat} {N : Nat} {ext : Nat → q_Sh} {rx : Nat → Nat → Option Nat} {L : Nat → Nat → Int64} (hd : 3 ≤ d) (hk : k ≤ mc) (hn : n ≤ ms)  {v2 : Int32} : ∀ (fu : Nat) {I : Nat → Nat → Int32} {E : Nat → Nat → Option Nat} {v3 : Int32} {r0 : (Nat → Int32) × (Nat → Int32) × (Nat → Int32) × (Nat → Int32) × (Nat → Int32) × (Nat → Int32) × (Nat → Int32) × (Nat → Int32) × (Nat → Int32) × (Nat → Int32)} (hf : f_X2_copyHalf_L36 (I 402) (I 477) (I 486) fu (I 473) (I 475) (I 476) (I 478) (I 481) (I 482) (I 483) (I 484) (I 485) (I 487) v3 = some r0) (hK0 : q_J g m_X2_copyHalf d mc ms h0 [487, 488] Q k n (q_kc (0, r, m, z, N, ext, rx, L) I E 46 [some (.ref 473), some (.ref 488), some (.int v2), none, none, none] [] [(473, r0.1), (475, r0.2.1), (476, r0.2.2.1), (478, r0.2.2.2.1), (481, r0.2.2.2.2.1), (482, r0.2.2.2.2.2.1), (483, r0.2.2.2.2.2.2.1), (484, r0.2.2.2.2.2.2.2.1), (485, r0.2.2.2.2.2.2.2.2.1), (487, r0.2.2.2.2.2.2.2.2.2)] [])), q_J g m_X2_copyHalf d mc ms h0 [487, 488] Q k n (36, [some (.ref 473), some (.ref 488), some (.int v2), some (.int v3), none, none], [], q_hp (0, r, m, z, N, ext, rx, L) I E) := by
  intro fu
  induction fu with
  | zero =>
    intro I E v3 r0 hf hK0
    rw [f_X2_copyHalf_L36] at hf
    cases hf
  | succ fu ih =>
    intro I E v3 r0 hf hK0
    rw [f_X2_copyHalf_L36] at hf
    change q_J g m_X2_copyHalf d mc ms h0 [487, 488] Q k n (q_kc (0, r, m, z, N, ext, rx, L) I E 36 [some (.ref 473), some (.ref 488), some (.int v2), some (.int v3), none, none] [] [] [])
    refine q_blf 2 [] (a := q_kc (0, r, m, z, N, ext, rx, L) I E 46 [some (.ref 473), some (.ref 488), some (.int v2), some (.int v3), none, none] [] [] []) (b := q_kc (0, r, m, z, N, ext, rx, L) I E 39 [some (.ref 473), some (.ref 488), some (.int v2), some (.int v3), none, none] [] [] []) (P := (6 : Int32) ≤ v3) ok_X2_copyHalf rfl q_cn (fun h1 => ?_) (fun h1 => ?_)
    · have hf := q_ip h1 hf
      refine q_less (ls' := [some (.ref 473), some (.ref 488), some (.int v2), none, none, none]) (q_sb2 (q_sb2 (q_sb2 (q_sb1 (q_sb1 (q_sb1 q_sb0)))))) ?_
      cases hf
      exact q_Jpad [473, 475, 476, 478, 481, 482, 483, 484, 485, 487] [] rfl rfl hK0
    · have hf := q_in h1 hf
      refine q_blk 3 [] (c' := q_kc (0, r, m, z, N, ext, rx, L) I E 42 [some (.ref 473), some (.ref 488), some (.int v2), some (.int v3), none, none] [.int v3, .ref 473, .ref 473] [] []) ok_X2_copyHalf rfl q_cn ?_
      obtain ⟨r2, hr2, hf⟩ := q_bd hf
      refine q_kV (M2 := m_X2_held) (As := [.int v3]) (b := 473) (v2 := some (.int r2)) ok_X2_copyHalf ok_X2_held cv_X2_held (ct_X2_held_473 (d := 1) (Nat.le_refl _) hr2) rfl rfl (Or.inl rfl) rfl rfl rfl rfl (Nat.le_trans (Nat.le_of_ble_eq_true rfl) hd) hk hn (Nat.le_of_ble_eq_true rfl) (fun x hx => absurd hx List.not_mem_nil) (q_nmL0 _) (q_nmS0 _) rfl (pos' := 43) (st' := [.int r2, .ref 473]) (lI' := []) (lE' := []) rfl rfl rfl rfl ?_
      obtain ⟨r3, hr3, hf⟩ := q_bd hf
      refine q_kV (M2 := m_X2_takeOver) (As := [.int r2]) (b := 473) (v2 := none) ok_X2_copyHalf ok_X2_takeOver cv_X2_takeOver (ct_X2_takeOver_473 (d := 2) (Nat.le_refl _) hr3) rfl rfl (Or.inl rfl) rfl rfl rfl rfl (Nat.le_trans (Nat.le_of_ble_eq_true rfl) hd) hk hn (Nat.le_of_ble_eq_true rfl) (fun x hx => absurd hx List.not_mem_nil) (q_nmL0 _) (q_nmS0 _) rfl (pos' := 44) (st' := []) (lI' := [(473, r3.1), (475, r3.2.1), (476, r3.2.2.1), (478, r3.2.2.2.1), (481, r3.2.2.2.2.1), (482, r3.2.2.2.2.2.1), (483, r3.2.2.2.2.2.2.1), (484, r3.2.2.2.2.2.2.2.1), (485, r3.2.2.2.2.2.2.2.2.1), (487, r3.2.2.2.2.2.2.2.2.2)]) (lE' := []) rfl rfl rfl rfl ?_
      refine q_blk 2 [] (c' := q_kc (0, r, m, z, N, ext, rx, L) I E 36 [some (.ref 473), some (.ref 488), some (.int v2), some (.int (v3 + 1)), none, none] [] [(473, r3.1), (475, r3.2.1), (476, r3.2.2.1), (478, r3.2.2.2.1), (481, r3.2.2.2.2.1), (482, r3.2.2.2.2.2.1), (483, r3.2.2.2.2.2.2.1), (484, r3.2.2.2.2.2.2.2.1), (485, r3.2.2.2.2.2.2.2.2.1), (487, r3.2.2.2.2.2.2.2.2.2)] []) ok_X2_copyHalf rfl q_cn ?_
      exact ih (I := q_ws I [(473, r3.1), (475, r3.2.1), (476, r3.2.2.1), (478, r3.2.2.2.1), (481, r3.2.2.2.2.1), (482, r3.2.2.2.2.2.1), (483, r3.2.2.2.2.2.2.1), (484, r3.2.2.2.2.2.2.2.1), (485, r3.2.2.2.2.2.2.2.2.1), (487, r3.2.2.2.2.2.2.2.2.2)]) (E := q_ws E []) hf (q_Jmrg rfl rfl hK0)
set_option maxHeartbeats 4000000 in
theorem lp_X2_copyHalf_L98_473 {g : q_G} {d mc ms : Nat} {h0 : q_H} {Q : (Option Value ⊕ String) → q_H → Prop} {k n : Nat} {r : Nat} {m : Nat} {z : Nat} {N : Nat} {ext : Nat → q_Sh} {rx : Nat → Nat → Option Nat} {L : Nat → Nat → Int64} (hd : 3 ≤ d) (hk : k ≤ mc) (hn : n ≤ ms)  {v2 : Int32} {v3 : Int32} {v4 : Int32} : ∀ (fu : Nat) {I : Nat → Nat → Int32} {E : Nat → Nat → Option Nat} {v5 : Int32} {r0 : (Nat → Int32) × (Nat → Int32) × (Nat → Int32) × (Nat → Int32) × (Nat → Int32) × (Nat → Int32) × (Nat → Int32) × (Nat → Int32) × (Nat → Int32) × (Nat → Int32)} (hf : f_X2_copyHalf_L98 (I 402) (I 477) (I 479) (I 480) v4 fu (I 473) (I 475) (I 476) (I 478) (I 481) (I 482) (I 483) (I 484) (I 485) (I 487) v5 = some r0) (hK0 : q_J g m_X2_copyHalf d mc ms h0 [487, 488] Q k n (q_kc (0, r, m, z, N, ext, rx, L) I E 113 [some (.ref 473), some (.ref 488), some (.int v2), some (.int v3), none, none] [] [(473, r0.1), (475, r0.2.1), (476, r0.2.2.1), (478, r0.2.2.2.1), (481, r0.2.2.2.2.1), (482, r0.2.2.2.2.2.1), (483, r0.2.2.2.2.2.2.1), (484, r0.2.2.2.2.2.2.2.1), (485, r0.2.2.2.2.2.2.2.2.1), (487, r0.2.2.2.2.2.2.2.2.2)] [])), q_J g m_X2_copyHalf d mc ms h0 [487, 488] Q k n (98, [some (.ref 473), some (.ref 488), some (.int v2), some (.int v3), some (.int v4), some (.int v5)], [], q_hp (0, r, m, z, N, ext, rx, L) I E) := by
  intro fu
  induction fu with
  | zero =>
    intro I E v5 r0 hf hK0
    rw [f_X2_copyHalf_L98] at hf
    cases hf
  | succ fu ih =>
    intro I E v5 r0 hf hK0
    rw [f_X2_copyHalf_L98] at hf
    change q_J g m_X2_copyHalf d mc ms h0 [487, 488] Q k n (q_kc (0, r, m, z, N, ext, rx, L) I E 98 [some (.ref 473), some (.ref 488), some (.int v2), some (.int v3), some (.int v4), some (.int v5)] [] [] [])
    refine q_blk 4 [] (c' := q_kc (0, r, m, z, N, ext, rx, L) I E 102 [some (.ref 473), some (.ref 488), some (.int v2), some (.int v3), some (.int v4), some (.int v5)] [.int v4, .ref 474, .int v5] [] []) ok_X2_copyHalf rfl q_cn ?_
    obtain ⟨r4, hr4, hf⟩ := q_bd hf
    refine q_kV (M2 := m_X1_ropes) (As := [.int v4]) (b := 474) (v2 := some (.int r4)) ok_X2_copyHalf ok_X1_ropes cv_X1_ropes (ct_X1_ropes_474 (d := 1) (Nat.le_refl _) hr4) rfl rfl (Or.inl rfl) rfl rfl rfl rfl (Nat.le_trans (Nat.le_of_ble_eq_true rfl) hd) hk hn (Nat.le_of_ble_eq_true rfl) (fun x hx => absurd hx List.not_mem_nil) (q_nmL0 _) (q_nmS0 _) rfl (pos' := 103) (st' := [.int r4, .int v5]) (lI' := []) (lE' := []) rfl rfl rfl rfl ?_
    refine q_blf 0 [] (a := q_kc (0, r, m, z, N, ext, rx, L) I E 113 [some (.ref 473), some (.ref 488), some (.int v2), some (.int v3), some (.int v4), some (.int v5)] [] [] []) (b := q_kc (0, r, m, z, N, ext, rx, L) I E 104 [some (.ref 473), some (.ref 488), some (.int v2), some (.int v3), some (.int v4), some (.int v5)] [] [] []) (P := r4 ≤ v5) ok_X2_copyHalf rfl q_cn (fun h5 => ?_) (fun h5 => ?_)
    · have hf := q_ip h5 hf
      refine q_less (ls' := [some (.ref 473), some (.ref 488), some (.int v2), some (.int v3), none, none]) (q_sb2 (q_sb2 (q_sb2 (q_sb2 (q_sb1 (q_sb1 q_sb0)))))) ?_
      cases hf
      exact q_Jpad [473, 475, 476, 478, 481, 482, 483, 484, 485, 487] [] rfl rfl hK0
    · have hf := q_in h5 hf
      refine q_blk 5 [] (c' := q_kc (0, r, m, z, N, ext, rx, L) I E 109 [some (.ref 473), some (.ref 488), some (.int v2), some (.int v3), some (.int v4), some (.int v5)] [.int v5, .int v4, .ref 474, .ref 473] [] []) ok_X2_copyHalf rfl q_cn ?_
      obtain ⟨r6, hr6, hf⟩ := q_bd hf
      refine q_kV (M2 := m_X1_lead) (As := [.int v4, .int v5]) (b := 474) (v2 := some (.int r6)) ok_X2_copyHalf ok_X1_lead cv_X1_lead (ct_X1_lead_474 (d := 2) (Nat.le_refl _) hr6) rfl rfl (Or.inl rfl) rfl rfl rfl rfl (Nat.le_trans (Nat.le_of_ble_eq_true rfl) hd) hk hn (Nat.le_of_ble_eq_true rfl) (fun x hx => absurd hx List.not_mem_nil) (q_nmL0 _) (q_nmS0 _) rfl (pos' := 110) (st' := [.int r6, .ref 473]) (lI' := []) (lE' := []) rfl rfl rfl rfl ?_
      obtain ⟨r7, hr7, hf⟩ := q_bd hf
      refine q_kV (M2 := m_X2_takeOver) (As := [.int r6]) (b := 473) (v2 := none) ok_X2_copyHalf ok_X2_takeOver cv_X2_takeOver (ct_X2_takeOver_473 (d := 2) (Nat.le_refl _) hr7) rfl rfl (Or.inl rfl) rfl rfl rfl rfl (Nat.le_trans (Nat.le_of_ble_eq_true rfl) hd) hk hn (Nat.le_of_ble_eq_true rfl) (fun x hx => absurd hx List.not_mem_nil) (q_nmL0 _) (q_nmS0 _) rfl (pos' := 111) (st' := []) (lI' := [(473, r7.1), (475, r7.2.1), (476, r7.2.2.1), (478, r7.2.2.2.1), (481, r7.2.2.2.2.1), (482, r7.2.2.2.2.2.1), (483, r7.2.2.2.2.2.2.1), (484, r7.2.2.2.2.2.2.2.1), (485, r7.2.2.2.2.2.2.2.2.1), (487, r7.2.2.2.2.2.2.2.2.2)]) (lE' := []) rfl rfl rfl rfl ?_
      refine q_blk 2 [] (c' := q_kc (0, r, m, z, N, ext, rx, L) I E 98 [some (.ref 473), some (.ref 488), some (.int v2), some (.int v3), some (.int v4), some (.int (v5 + 1))] [] [(473, r7.1), (475, r7.2.1), (476, r7.2.2.1), (478, r7.2.2.2.1), (481, r7.2.2.2.2.1), (482, r7.2.2.2.2.2.1), (483, r7.2.2.2.2.2.2.1), (484, r7.2.2.2.2.2.2.2.1), (485, r7.2.2.2.2.2.2.2.2.1), (487, r7.2.2.2.2.2.2.2.2.2)] []) ok_X2_copyHalf rfl q_cn ?_
      exact ih (I := q_ws I [(473, r7.1), (475, r7.2.1), (476, r7.2.2.1), (478, r7.2.2.2.1), (481, r7.2.2.2.2.1), (482, r7.2.2.2.2.2.1), (483, r7.2.2.2.2.2.2.1), (484, r7.2.2.2.2.2.2.2.1), (485, r7.2.2.2.2.2.2.2.2.1), (487, r7.2.2.2.2.2.2.2.2.2)]) (E := q_ws E []) hf (q_Jmrg rfl rfl hK0)
set_option maxHeartbeats 4000000 in
theorem lp_X2_copyHalf_L59_473 {g : q_G} {d mc ms : Nat} {h0 : q_H} {Q : (Option Value ⊕ String) → q_H → Prop} {k n : Nat} {r : Nat} {m : Nat} {z : Nat} {N : Nat} {ext : Nat → q_Sh} {rx : Nat → Nat → Option Nat} {L : Nat → Nat → Int64} (hd : 3 ≤ d) (hk : k ≤ mc) (hn : n ≤ ms)  {v2 : Int32} {v3 : Int32} {v4 : Int32} : ∀ (fu : Nat) {I : Nat → Nat → Int32} {E : Nat → Nat → Option Nat} {v5 : Int32} {r0 : (Nat → Int32) × (Nat → Int32) × (Nat → Int32) × (Nat → Int32) × (Nat → Int32) × (Nat → Int32) × (Nat → Int32) × (Nat → Int32) × (Nat → Int32) × (Nat → Int32)} (hf : f_X2_copyHalf_L59 (I 402) (I 477) (I 479) (I 480) v4 fu (I 473) (I 475) (I 476) (I 478) (I 481) (I 482) (I 483) (I 484) (I 485) (I 487) v5 = some r0) (hK0 : q_J g m_X2_copyHalf d mc ms h0 [487, 488] Q k n (q_kc (0, r, m, z, N, ext, rx, L) I E 79 [some (.ref 473), some (.ref 488), some (.int v2), some (.int v3), none, none] [] [(473, r0.1), (475, r0.2.1), (476, r0.2.2.1), (478, r0.2.2.2.1), (481, r0.2.2.2.2.1), (482, r0.2.2.2.2.2.1), (483, r0.2.2.2.2.2.2.1), (484, r0.2.2.2.2.2.2.2.1), (485, r0.2.2.2.2.2.2.2.2.1), (487, r0.2.2.2.2.2.2.2.2.2)] [])), q_J g m_X2_copyHalf d mc ms h0 [487, 488] Q k n (59, [some (.ref 473), some (.ref 488), some (.int v2), some (.int v3), some (.int v4), some (.int v5)], [], q_hp (0, r, m, z, N, ext, rx, L) I E) := by
  intro fu
  induction fu with
  | zero =>
    intro I E v5 r0 hf hK0
    rw [f_X2_copyHalf_L59] at hf
    cases hf
  | succ fu ih =>
    intro I E v5 r0 hf hK0
    rw [f_X2_copyHalf_L59] at hf
    change q_J g m_X2_copyHalf d mc ms h0 [487, 488] Q k n (q_kc (0, r, m, z, N, ext, rx, L) I E 59 [some (.ref 473), some (.ref 488), some (.int v2), some (.int v3), some (.int v4), some (.int v5)] [] [] [])
    refine q_blk 4 [] (c' := q_kc (0, r, m, z, N, ext, rx, L) I E 63 [some (.ref 473), some (.ref 488), some (.int v2), some (.int v3), some (.int v4), some (.int v5)] [.int v4, .ref 474, .int v5] [] []) ok_X2_copyHalf rfl q_cn ?_
    obtain ⟨r8, hr8, hf⟩ := q_bd hf
    refine q_kV (M2 := m_X1_ropes) (As := [.int v4]) (b := 474) (v2 := some (.int r8)) ok_X2_copyHalf ok_X1_ropes cv_X1_ropes (ct_X1_ropes_474 (d := 1) (Nat.le_refl _) hr8) rfl rfl (Or.inl rfl) rfl rfl rfl rfl (Nat.le_trans (Nat.le_of_ble_eq_true rfl) hd) hk hn (Nat.le_of_ble_eq_true rfl) (fun x hx => absurd hx List.not_mem_nil) (q_nmL0 _) (q_nmS0 _) rfl (pos' := 64) (st' := [.int r8, .int v5]) (lI' := []) (lE' := []) rfl rfl rfl rfl ?_
    refine q_blf 0 [] (a := q_kc (0, r, m, z, N, ext, rx, L) I E 79 [some (.ref 473), some (.ref 488), some (.int v2), some (.int v3), some (.int v4), some (.int v5)] [] [] []) (b := q_kc (0, r, m, z, N, ext, rx, L) I E 65 [some (.ref 473), some (.ref 488), some (.int v2), some (.int v3), some (.int v4), some (.int v5)] [] [] []) (P := r8 ≤ v5) ok_X2_copyHalf rfl q_cn (fun h9 => ?_) (fun h9 => ?_)
    · have hf := q_ip h9 hf
      refine q_less (ls' := [some (.ref 473), some (.ref 488), some (.int v2), some (.int v3), none, none]) (q_sb2 (q_sb2 (q_sb2 (q_sb2 (q_sb1 (q_sb1 q_sb0)))))) ?_
      cases hf
      exact q_Jpad [473, 475, 476, 478, 481, 482, 483, 484, 485, 487] [] rfl rfl hK0
    · have hf := q_in h9 hf
      refine q_blk 3 [] (c' := q_kc (0, r, m, z, N, ext, rx, L) I E 68 [some (.ref 473), some (.ref 488), some (.int v2), some (.int v3), some (.int v4), some (.int v5)] [.int v4, .ref 483] [] []) ok_X2_copyHalf rfl q_cn ?_
      obtain ⟨r10, hr10, hf⟩ := q_bd hf
      refine q_kV (M2 := m_X4_has) (As := [.int v4]) (b := 483) (v2 := some (.int (q_bz r10))) ok_X2_copyHalf ok_X4_has cv_X4_has (ct_X4_has_483 (d := 1) (Nat.le_refl _) hr10) rfl rfl (Or.inl rfl) rfl rfl rfl rfl (Nat.le_trans (Nat.le_of_ble_eq_true rfl) hd) hk hn (Nat.le_of_ble_eq_true rfl) (fun x hx => absurd hx List.not_mem_nil) (q_nmL0 _) (q_nmS0 _) rfl (pos' := 69) (st' := [.int (q_bz r10)]) (lI' := []) (lE' := []) rfl rfl rfl rfl ?_
      refine q_blf 0 [] (a := q_kc (0, r, m, z, N, ext, rx, L) I E 79 [some (.ref 473), some (.ref 488), some (.int v2), some (.int v3), some (.int v4), some (.int v5)] [] [] []) (b := q_kc (0, r, m, z, N, ext, rx, L) I E 70 [some (.ref 473), some (.ref 488), some (.int v2), some (.int v3), some (.int v4), some (.int v5)] [] [] []) (P := ¬ (q_bz r10) = 0) ok_X2_copyHalf rfl q_cn (fun h11 => ?_) (fun h11 => ?_)
      · have hf := q_ip h11 hf
        refine q_less (ls' := [some (.ref 473), some (.ref 488), some (.int v2), some (.int v3), none, none]) (q_sb2 (q_sb2 (q_sb2 (q_sb2 (q_sb1 (q_sb1 q_sb0)))))) ?_
        cases hf
        exact q_Jpad [473, 475, 476, 478, 481, 482, 483, 484, 485, 487] [] rfl rfl hK0
      · have hf := q_in h11 hf
        refine q_blk 5 [] (c' := q_kc (0, r, m, z, N, ext, rx, L) I E 75 [some (.ref 473), some (.ref 488), some (.int v2), some (.int v3), some (.int v4), some (.int v5)] [.int v5, .int v4, .ref 474, .ref 473] [] []) ok_X2_copyHalf rfl q_cn ?_
        obtain ⟨r12, hr12, hf⟩ := q_bd hf
        refine q_kV (M2 := m_X1_lead) (As := [.int v4, .int v5]) (b := 474) (v2 := some (.int r12)) ok_X2_copyHalf ok_X1_lead cv_X1_lead (ct_X1_lead_474 (d := 2) (Nat.le_refl _) hr12) rfl rfl (Or.inl rfl) rfl rfl rfl rfl (Nat.le_trans (Nat.le_of_ble_eq_true rfl) hd) hk hn (Nat.le_of_ble_eq_true rfl) (fun x hx => absurd hx List.not_mem_nil) (q_nmL0 _) (q_nmS0 _) rfl (pos' := 76) (st' := [.int r12, .ref 473]) (lI' := []) (lE' := []) rfl rfl rfl rfl ?_
        obtain ⟨r13, hr13, hf⟩ := q_bd hf
        refine q_kV (M2 := m_X2_takeOver) (As := [.int r12]) (b := 473) (v2 := none) ok_X2_copyHalf ok_X2_takeOver cv_X2_takeOver (ct_X2_takeOver_473 (d := 2) (Nat.le_refl _) hr13) rfl rfl (Or.inl rfl) rfl rfl rfl rfl (Nat.le_trans (Nat.le_of_ble_eq_true rfl) hd) hk hn (Nat.le_of_ble_eq_true rfl) (fun x hx => absurd hx List.not_mem_nil) (q_nmL0 _) (q_nmS0 _) rfl (pos' := 77) (st' := []) (lI' := [(473, r13.1), (475, r13.2.1), (476, r13.2.2.1), (478, r13.2.2.2.1), (481, r13.2.2.2.2.1), (482, r13.2.2.2.2.2.1), (483, r13.2.2.2.2.2.2.1), (484, r13.2.2.2.2.2.2.2.1), (485, r13.2.2.2.2.2.2.2.2.1), (487, r13.2.2.2.2.2.2.2.2.2)]) (lE' := []) rfl rfl rfl rfl ?_
        refine q_blk 2 [] (c' := q_kc (0, r, m, z, N, ext, rx, L) I E 59 [some (.ref 473), some (.ref 488), some (.int v2), some (.int v3), some (.int v4), some (.int (v5 + 1))] [] [(473, r13.1), (475, r13.2.1), (476, r13.2.2.1), (478, r13.2.2.2.1), (481, r13.2.2.2.2.1), (482, r13.2.2.2.2.2.1), (483, r13.2.2.2.2.2.2.1), (484, r13.2.2.2.2.2.2.2.1), (485, r13.2.2.2.2.2.2.2.2.1), (487, r13.2.2.2.2.2.2.2.2.2)] []) ok_X2_copyHalf rfl q_cn ?_
        exact ih (I := q_ws I [(473, r13.1), (475, r13.2.1), (476, r13.2.2.1), (478, r13.2.2.2.1), (481, r13.2.2.2.2.1), (482, r13.2.2.2.2.2.1), (483, r13.2.2.2.2.2.2.1), (484, r13.2.2.2.2.2.2.2.1), (485, r13.2.2.2.2.2.2.2.2.1), (487, r13.2.2.2.2.2.2.2.2.2)]) (E := q_ws E []) hf (q_Jmrg rfl rfl hK0)
set_option maxHeartbeats 4000000 in
theorem lp_X2_copyHalf_L83_473 {g : q_G} {d mc ms : Nat} {h0 : q_H} {Q : (Option Value ⊕ String) → q_H → Prop} {k n : Nat} {r : Nat} {m : Nat} {z : Nat} {N : Nat} {ext : Nat → q_Sh} {rx : Nat → Nat → Option Nat} {L : Nat → Nat → Int64} (hd : 3 ≤ d) (hk : k ≤ mc) (hn : n ≤ ms)  {v2 : Int32} : ∀ (fu : Nat) {I : Nat → Nat → Int32} {E : Nat → Nat → Option Nat} {v3 : Int32} {r0 : (Nat → Int32) × (Nat → Int32) × (Nat → Int32) × (Nat → Int32) × (Nat → Int32) × (Nat → Int32) × (Nat → Int32) × (Nat → Int32) × (Nat → Int32) × (Nat → Int32)} (hf : f_X2_copyHalf_L83 (I 402) (I 477) (I 479) (I 480) fu (I 473) (I 475) (I 476) (I 478) (I 481) (I 482) (I 483) (I 484) (I 485) (I 487) v3 = some r0) (hK0 : q_J g m_X2_copyHalf d mc ms h0 [487, 488] Q k n (q_kc (0, r, m, z, N, ext, rx, L) I E 115 [some (.ref 473), some (.ref 488), some (.int v2), none, none, none] [] [(473, r0.1), (475, r0.2.1), (476, r0.2.2.1), (478, r0.2.2.2.1), (481, r0.2.2.2.2.1), (482, r0.2.2.2.2.2.1), (483, r0.2.2.2.2.2.2.1), (484, r0.2.2.2.2.2.2.2.1), (485, r0.2.2.2.2.2.2.2.2.1), (487, r0.2.2.2.2.2.2.2.2.2)] [])), q_J g m_X2_copyHalf d mc ms h0 [487, 488] Q k n (83, [some (.ref 473), some (.ref 488), some (.int v2), some (.int v3), none, none], [], q_hp (0, r, m, z, N, ext, rx, L) I E) := by
  intro fu
  induction fu with
  | zero =>
    intro I E v3 r0 hf hK0
    rw [f_X2_copyHalf_L83] at hf
    cases hf
  | succ fu ih =>
    intro I E v3 r0 hf hK0
    rw [f_X2_copyHalf_L83] at hf
    change q_J g m_X2_copyHalf d mc ms h0 [487, 488] Q k n (q_kc (0, r, m, z, N, ext, rx, L) I E 83 [some (.ref 473), some (.ref 488), some (.int v2), some (.int v3), none, none] [] [] [])
    refine q_blf 2 [] (a := q_kc (0, r, m, z, N, ext, rx, L) I E 115 [some (.ref 473), some (.ref 488), some (.int v2), some (.int v3), none, none] [] [] []) (b := q_kc (0, r, m, z, N, ext, rx, L) I E 86 [some (.ref 473), some (.ref 488), some (.int v2), some (.int v3), none, none] [] [] []) (P := (128 : Int32) ≤ v3) ok_X2_copyHalf rfl q_cn (fun h14 => ?_) (fun h14 => ?_)
    · have hf := q_ip h14 hf
      refine q_less (ls' := [some (.ref 473), some (.ref 488), some (.int v2), none, none, none]) (q_sb2 (q_sb2 (q_sb2 (q_sb1 (q_sb1 (q_sb1 q_sb0)))))) ?_
      cases hf
      exact q_Jpad [473, 475, 476, 478, 481, 482, 483, 484, 485, 487] [] rfl rfl hK0
    · have hf := q_in h14 hf
      refine q_blk 3 [] (c' := q_kc (0, r, m, z, N, ext, rx, L) I E 89 [some (.ref 473), some (.ref 488), some (.int v2), some (.int v3), none, none] [.ref 483, .int v3] [] []) ok_X2_copyHalf rfl q_cn ?_
      obtain ⟨r15, hr15, hf⟩ := q_bd hf
      refine q_kV (M2 := m_X4_length) (As := []) (b := 483) (v2 := some (.int r15)) ok_X2_copyHalf ok_X4_length cv_X4_length (ct_X4_length_483 (d := 1) (Nat.le_refl _) hr15) rfl rfl (Or.inl rfl) rfl rfl rfl rfl (Nat.le_trans (Nat.le_of_ble_eq_true rfl) hd) hk hn (Nat.le_of_ble_eq_true rfl) (fun x hx => absurd hx List.not_mem_nil) (q_nmL0 _) (q_nmS0 _) rfl (pos' := 90) (st' := [.int r15, .int v3]) (lI' := []) (lE' := []) rfl rfl rfl rfl ?_
      refine q_blf 0 [] (a := q_kc (0, r, m, z, N, ext, rx, L) I E 115 [some (.ref 473), some (.ref 488), some (.int v2), some (.int v3), none, none] [] [] []) (b := q_kc (0, r, m, z, N, ext, rx, L) I E 91 [some (.ref 473), some (.ref 488), some (.int v2), some (.int v3), none, none] [] [] []) (P := r15 ≤ v3) ok_X2_copyHalf rfl q_cn (fun h16 => ?_) (fun h16 => ?_)
      · have hf := q_ip h16 hf
        refine q_less (ls' := [some (.ref 473), some (.ref 488), some (.int v2), none, none, none]) (q_sb2 (q_sb2 (q_sb2 (q_sb1 (q_sb1 (q_sb1 q_sb0)))))) ?_
        cases hf
        exact q_Jpad [473, 475, 476, 478, 481, 482, 483, 484, 485, 487] [] rfl rfl hK0
      · have hf := q_in h16 hf
        refine q_blk 3 [] (c' := q_kc (0, r, m, z, N, ext, rx, L) I E 94 [some (.ref 473), some (.ref 488), some (.int v2), some (.int v3), none, none] [.int v3, .ref 483] [] []) ok_X2_copyHalf rfl q_cn ?_
        obtain ⟨r17, hr17, hf⟩ := q_bd hf
        refine q_kV (M2 := m_X4_at) (As := [.int v3]) (b := 483) (v2 := some (.int r17)) ok_X2_copyHalf ok_X4_at cv_X4_at (ct_X4_at_483 (d := 1) (Nat.le_refl _) hr17) rfl rfl (Or.inl rfl) rfl rfl rfl rfl (Nat.le_trans (Nat.le_of_ble_eq_true rfl) hd) hk hn (Nat.le_of_ble_eq_true rfl) (fun x hx => absurd hx List.not_mem_nil) (q_nmL0 _) (q_nmS0 _) rfl (pos' := 95) (st' := [.int r17]) (lI' := []) (lE' := []) rfl rfl rfl rfl ?_
        refine q_blk 3 [] (c' := q_kc (0, r, m, z, N, ext, rx, L) I E 98 [some (.ref 473), some (.ref 488), some (.int v2), some (.int v3), some (.int r17), some (.int (0 : Int32))] [] [] []) ok_X2_copyHalf rfl q_cn ?_
        obtain ⟨r18, hr18, hf⟩ := q_bd hf
        refine lp_X2_copyHalf_L98_473 (I := q_ws I []) (E := q_ws E []) hd hk hn 4096 hr18 ?_
        refine q_Jmrg (lI' := [(473, r18.1), (475, r18.2.1), (476, r18.2.2.1), (478, r18.2.2.2.1), (481, r18.2.2.2.2.1), (482, r18.2.2.2.2.2.1), (483, r18.2.2.2.2.2.2.1), (484, r18.2.2.2.2.2.2.2.1), (485, r18.2.2.2.2.2.2.2.2.1), (487, r18.2.2.2.2.2.2.2.2.2)]) (lE' := []) rfl rfl ?_
        refine q_blk 2 [] (c' := q_kc (0, r, m, z, N, ext, rx, L) I E 83 [some (.ref 473), some (.ref 488), some (.int v2), some (.int (v3 + 1)), none, none] [] [(473, r18.1), (475, r18.2.1), (476, r18.2.2.1), (478, r18.2.2.2.1), (481, r18.2.2.2.2.1), (482, r18.2.2.2.2.2.1), (483, r18.2.2.2.2.2.2.1), (484, r18.2.2.2.2.2.2.2.1), (485, r18.2.2.2.2.2.2.2.2.1), (487, r18.2.2.2.2.2.2.2.2.2)] []) ok_X2_copyHalf rfl q_cn ?_
        exact ih (I := q_ws I [(473, r18.1), (475, r18.2.1), (476, r18.2.2.1), (478, r18.2.2.2.1), (481, r18.2.2.2.2.1), (482, r18.2.2.2.2.2.1), (483, r18.2.2.2.2.2.2.1), (484, r18.2.2.2.2.2.2.2.1), (485, r18.2.2.2.2.2.2.2.2.1), (487, r18.2.2.2.2.2.2.2.2.2)]) (E := q_ws E []) hf (q_Jmrg rfl rfl hK0)
set_option maxHeartbeats 4000000 in
theorem lp_X2_copyHalf_L48_473 {g : q_G} {d mc ms : Nat} {h0 : q_H} {Q : (Option Value ⊕ String) → q_H → Prop} {k n : Nat} {r : Nat} {m : Nat} {z : Nat} {N : Nat} {ext : Nat → q_Sh} {rx : Nat → Nat → Option Nat} {L : Nat → Nat → Int64} (hd : 3 ≤ d) (hk : k ≤ mc) (hn : n ≤ ms)  {v2 : Int32} : ∀ (fu : Nat) {I : Nat → Nat → Int32} {E : Nat → Nat → Option Nat} {v3 : Int32} {r0 : (Nat → Int32) × (Nat → Int32) × (Nat → Int32) × (Nat → Int32) × (Nat → Int32) × (Nat → Int32) × (Nat → Int32) × (Nat → Int32) × (Nat → Int32) × (Nat → Int32)} (hf : f_X2_copyHalf_L48 (I 402) (I 477) (I 479) (I 480) fu (I 473) (I 475) (I 476) (I 478) (I 481) (I 482) (I 483) (I 484) (I 485) (I 487) v3 = some r0) (hK0 : q_J g m_X2_copyHalf d mc ms h0 [487, 488] Q k n (q_kc (0, r, m, z, N, ext, rx, L) I E 81 [some (.ref 473), some (.ref 488), some (.int v2), none, none, none] [] [(473, r0.1), (475, r0.2.1), (476, r0.2.2.1), (478, r0.2.2.2.1), (481, r0.2.2.2.2.1), (482, r0.2.2.2.2.2.1), (483, r0.2.2.2.2.2.2.1), (484, r0.2.2.2.2.2.2.2.1), (485, r0.2.2.2.2.2.2.2.2.1), (487, r0.2.2.2.2.2.2.2.2.2)] [])), q_J g m_X2_copyHalf d mc ms h0 [487, 488] Q k n (48, [some (.ref 473), some (.ref 488), some (.int v2), some (.int v3), none, none], [], q_hp (0, r, m, z, N, ext, rx, L) I E) := by
  intro fu
  induction fu with
  | zero =>
    intro I E v3 r0 hf hK0
    rw [f_X2_copyHalf_L48] at hf
    cases hf
  | succ fu ih =>
    intro I E v3 r0 hf hK0
    rw [f_X2_copyHalf_L48] at hf
    change q_J g m_X2_copyHalf d mc ms h0 [487, 488] Q k n (q_kc (0, r, m, z, N, ext, rx, L) I E 48 [some (.ref 473), some (.ref 488), some (.int v2), some (.int v3), none, none] [] [] [])
    refine q_blf 4 [] (a := q_kc (0, r, m, z, N, ext, rx, L) I E 81 [some (.ref 473), some (.ref 488), some (.int v2), some (.int v3), none, none] [] [] []) (b := q_kc (0, r, m, z, N, ext, rx, L) I E 53 [some (.ref 473), some (.ref 488), some (.int v2), some (.int v3), none, none] [] [] []) (P := ((I 402) 1) ≤ v3) ok_X2_copyHalf rfl q_cn (fun h19 => ?_) (fun h19 => ?_)
    · have hf := q_ip h19 hf
      refine q_less (ls' := [some (.ref 473), some (.ref 488), some (.int v2), none, none, none]) (q_sb2 (q_sb2 (q_sb2 (q_sb1 (q_sb1 (q_sb1 q_sb0)))))) ?_
      cases hf
      exact q_Jpad [473, 475, 476, 478, 481, 482, 483, 484, 485, 487] [] rfl rfl hK0
    · have hf := q_in h19 hf
      refine q_blk 2 [] (c' := q_kc (0, r, m, z, N, ext, rx, L) I E 55 [some (.ref 473), some (.ref 488), some (.int v2), some (.int v3), none, none] [.int v3, .ref 473] [] []) ok_X2_copyHalf rfl q_cn ?_
      obtain ⟨r20, hr20, hf⟩ := q_bd hf
      refine q_kV (M2 := m_X2_loftBaleFrom) (As := [.int v3]) (b := 473) (v2 := some (.int r20)) ok_X2_copyHalf ok_X2_loftBaleFrom cv_X2_loftBaleFrom (ct_X2_loftBaleFrom_473 (d := 2) (Nat.le_refl _) hr20) rfl rfl (Or.inl rfl) rfl rfl rfl rfl (Nat.le_trans (Nat.le_of_ble_eq_true rfl) hd) hk hn (Nat.le_of_ble_eq_true rfl) (fun x hx => absurd hx List.not_mem_nil) (q_nmL0 _) (q_nmS0 _) rfl (pos' := 56) (st' := [.int r20]) (lI' := []) (lE' := []) rfl rfl rfl rfl ?_
      refine q_blk 3 [] (c' := q_kc (0, r, m, z, N, ext, rx, L) I E 59 [some (.ref 473), some (.ref 488), some (.int v2), some (.int v3), some (.int r20), some (.int (0 : Int32))] [] [] []) ok_X2_copyHalf rfl q_cn ?_
      obtain ⟨r21, hr21, hf⟩ := q_bd hf
      refine lp_X2_copyHalf_L59_473 (I := q_ws I []) (E := q_ws E []) hd hk hn 4096 hr21 ?_
      refine q_Jmrg (lI' := [(473, r21.1), (475, r21.2.1), (476, r21.2.2.1), (478, r21.2.2.2.1), (481, r21.2.2.2.2.1), (482, r21.2.2.2.2.2.1), (483, r21.2.2.2.2.2.2.1), (484, r21.2.2.2.2.2.2.2.1), (485, r21.2.2.2.2.2.2.2.2.1), (487, r21.2.2.2.2.2.2.2.2.2)]) (lE' := []) rfl rfl ?_
      refine q_blk 2 [] (c' := q_kc (0, r, m, z, N, ext, rx, L) I E 48 [some (.ref 473), some (.ref 488), some (.int v2), some (.int (v3 + 1)), none, none] [] [(473, r21.1), (475, r21.2.1), (476, r21.2.2.1), (478, r21.2.2.2.1), (481, r21.2.2.2.2.1), (482, r21.2.2.2.2.2.1), (483, r21.2.2.2.2.2.2.1), (484, r21.2.2.2.2.2.2.2.1), (485, r21.2.2.2.2.2.2.2.2.1), (487, r21.2.2.2.2.2.2.2.2.2)] []) ok_X2_copyHalf rfl q_cn ?_
      exact ih (I := q_ws I [(473, r21.1), (475, r21.2.1), (476, r21.2.2.1), (478, r21.2.2.2.1), (481, r21.2.2.2.2.1), (482, r21.2.2.2.2.2.1), (483, r21.2.2.2.2.2.2.1), (484, r21.2.2.2.2.2.2.2.1), (485, r21.2.2.2.2.2.2.2.2.1), (487, r21.2.2.2.2.2.2.2.2.2)]) (E := q_ws E []) hf (q_Jmrg rfl rfl hK0)
set_option maxHeartbeats 4000000 in
theorem ct_X2_copyHalf_473 {g : q_G} {r : Nat} {m : Nat} {ext : Nat → q_Sh} {rx : Nat → Nat → Option Nat} {L : Nat → Nat → Int64} {d : Nat} (hd : 3 ≤ d)  {I : Nat → Nat → Int32} {E : Nat → Nat → Option Nat} {r0 : Int32 × (Nat → Int32) × (Nat → Int32) × (Nat → Int32) × (Nat → Int32) × (Nat → Int32) × (Nat → Int32) × (Nat → Int32) × (Nat → Int32) × (Nat → Int32) × (Nat → Int32) × (Nat → Int32)} (hf : f_X2_copyHalf (I 402) (I 473) (I 475) (I 476) (I 477) (I 478) (I 479) (I 480) (I 481) (I 482) (I 483) (I 484) (I 485) (I 486) (I 487) (I 488) = some r0) : q_Ct g m_X2_copyHalf d 0 0 [487, 488] [.ref 473] (q_hp (0, r, m, 499, 529, ext, rx, L) I E) (fun o h' => o = .inl (some (.int r0.1)) ∧ h' = q_hp (0, r, m, 499, 529, ext, rx, L) (q_ws I [(473, r0.2.1), (475, r0.2.2.1), (476, r0.2.2.2.1), (478, r0.2.2.2.2.1), (481, r0.2.2.2.2.2.1), (482, r0.2.2.2.2.2.2.1), (483, r0.2.2.2.2.2.2.2.1), (484, r0.2.2.2.2.2.2.2.2.1), (485, r0.2.2.2.2.2.2.2.2.2.1), (487, r0.2.2.2.2.2.2.2.2.2.2.1), (488, r0.2.2.2.2.2.2.2.2.2.2.2)]) (q_ws E [])) := by
  rw [f_X2_copyHalf] at hf
  refine q_Ct_of ok_X2_copyHalf (Nat.le_of_ble_eq_true rfl) ?_ _ rfl rfl
  change q_J g m_X2_copyHalf d 0 0 _ [487, 488] _ 0 0 (q_kc (0, r, m, 499, 529, ext, rx, L) I E 0 [some (.ref 473), none, none, none, none, none] [] [] [])
  refine q_blk 6 [] (c' := q_kc (0, r, m, 499, 529, ext, rx, L) I E 6 [some (.ref 473), some (.ref 487), some (.int ((I 473) 7)), none, none, none] [] [] []) ok_X2_copyHalf rfl q_cn ?_
  refine q_kswap473 (lI' := [(487, (I 488)), (488, (I 487))]) rfl ?_
  refine q_blk 20 [] (c' := q_kc (0, r, m, 499, 529, ext, rx, L) I E 33 [some (.ref 473), some (.ref 488), some (.int ((I 473) 7)), none, none, none] [.ref 483] [(473, (q_up (q_up (q_up (q_up (I 473) 7 (0 : Int32)) 8 (0 : Int32)) 9 ((1 : Int32) - ((q_up (q_up (I 473) 7 (0 : Int32)) 8 (0 : Int32)) 9))) 12 (((q_up (q_up (q_up (I 473) 7 (0 : Int32)) 8 (0 : Int32)) 9 ((1 : Int32) - ((q_up (q_up (I 473) 7 (0 : Int32)) 8 (0 : Int32)) 9))) 12) + (1 : Int32)))), (487, (I 488)), (488, (I 487))] []) ok_X2_copyHalf rfl q_cn ?_
  obtain ⟨r22, hr22, hf⟩ := q_bd hf
  refine q_kV (M2 := m_X4_clear) (As := []) (b := 483) (v2 := none) ok_X2_copyHalf ok_X4_clear cv_X4_clear (ct_X4_clear_483 (d := 2) (Nat.le_refl _) hr22) rfl rfl (Or.inl rfl) rfl rfl rfl rfl (Nat.le_trans (Nat.le_of_ble_eq_true rfl) hd) (Nat.le_of_ble_eq_true rfl) (Nat.le_of_ble_eq_true rfl) (Nat.le_of_ble_eq_true rfl) (fun x hx => absurd hx List.not_mem_nil) (q_nmL0 _) (q_nmS0 _) rfl (pos' := 34) (st' := []) (lI' := [(473, (q_up (q_up (q_up (q_up (I 473) 7 (0 : Int32)) 8 (0 : Int32)) 9 ((1 : Int32) - ((q_up (q_up (I 473) 7 (0 : Int32)) 8 (0 : Int32)) 9))) 12 (((q_up (q_up (q_up (I 473) 7 (0 : Int32)) 8 (0 : Int32)) 9 ((1 : Int32) - ((q_up (q_up (I 473) 7 (0 : Int32)) 8 (0 : Int32)) 9))) 12) + (1 : Int32)))), (483, r22.1), (485, r22.2), (487, (I 488)), (488, (I 487))]) (lE' := []) rfl rfl rfl rfl ?_
  refine q_blk 2 [] (c' := q_kc (0, r, m, 499, 529, ext, rx, L) I E 36 [some (.ref 473), some (.ref 488), some (.int ((I 473) 7)), some (.int (0 : Int32)), none, none] [] [(473, (q_up (q_up (q_up (q_up (I 473) 7 (0 : Int32)) 8 (0 : Int32)) 9 ((1 : Int32) - ((q_up (q_up (I 473) 7 (0 : Int32)) 8 (0 : Int32)) 9))) 12 (((q_up (q_up (q_up (I 473) 7 (0 : Int32)) 8 (0 : Int32)) 9 ((1 : Int32) - ((q_up (q_up (I 473) 7 (0 : Int32)) 8 (0 : Int32)) 9))) 12) + (1 : Int32)))), (483, r22.1), (485, r22.2), (487, (I 488)), (488, (I 487))] []) ok_X2_copyHalf rfl q_cn ?_
  obtain ⟨r23, hr23, hf⟩ := q_bd hf
  refine lp_X2_copyHalf_L36_473 (I := q_ws I [(473, (q_up (q_up (q_up (q_up (I 473) 7 (0 : Int32)) 8 (0 : Int32)) 9 ((1 : Int32) - ((q_up (q_up (I 473) 7 (0 : Int32)) 8 (0 : Int32)) 9))) 12 (((q_up (q_up (q_up (I 473) 7 (0 : Int32)) 8 (0 : Int32)) 9 ((1 : Int32) - ((q_up (q_up (I 473) 7 (0 : Int32)) 8 (0 : Int32)) 9))) 12) + (1 : Int32)))), (483, r22.1), (485, r22.2), (487, (I 488)), (488, (I 487))]) (E := q_ws E []) hd (Nat.le_of_ble_eq_true rfl) (Nat.le_of_ble_eq_true rfl) 4096 hr23 ?_
  refine q_Jmrg (lI' := [(473, r23.1), (475, r23.2.1), (476, r23.2.2.1), (478, r23.2.2.2.1), (481, r23.2.2.2.2.1), (482, r23.2.2.2.2.2.1), (483, r23.2.2.2.2.2.2.1), (484, r23.2.2.2.2.2.2.2.1), (485, r23.2.2.2.2.2.2.2.2.1), (487, r23.2.2.2.2.2.2.2.2.2), (488, (I 487))]) (lE' := []) rfl rfl ?_
  refine q_blk 2 [] (c' := q_kc (0, r, m, 499, 529, ext, rx, L) I E 48 [some (.ref 473), some (.ref 488), some (.int ((I 473) 7)), some (.int (0 : Int32)), none, none] [] [(473, r23.1), (475, r23.2.1), (476, r23.2.2.1), (478, r23.2.2.2.1), (481, r23.2.2.2.2.1), (482, r23.2.2.2.2.2.1), (483, r23.2.2.2.2.2.2.1), (484, r23.2.2.2.2.2.2.2.1), (485, r23.2.2.2.2.2.2.2.2.1), (487, r23.2.2.2.2.2.2.2.2.2), (488, (I 487))] []) ok_X2_copyHalf rfl q_cn ?_
  obtain ⟨r24, hr24, hf⟩ := q_bd hf
  refine lp_X2_copyHalf_L48_473 (I := q_ws I [(473, r23.1), (475, r23.2.1), (476, r23.2.2.1), (478, r23.2.2.2.1), (481, r23.2.2.2.2.1), (482, r23.2.2.2.2.2.1), (483, r23.2.2.2.2.2.2.1), (484, r23.2.2.2.2.2.2.2.1), (485, r23.2.2.2.2.2.2.2.2.1), (487, r23.2.2.2.2.2.2.2.2.2), (488, (I 487))]) (E := q_ws E []) hd (Nat.le_of_ble_eq_true rfl) (Nat.le_of_ble_eq_true rfl) 4096 hr24 ?_
  refine q_Jmrg (lI' := [(473, r24.1), (475, r24.2.1), (476, r24.2.2.1), (478, r24.2.2.2.1), (481, r24.2.2.2.2.1), (482, r24.2.2.2.2.2.1), (483, r24.2.2.2.2.2.2.1), (484, r24.2.2.2.2.2.2.2.1), (485, r24.2.2.2.2.2.2.2.2.1), (487, r24.2.2.2.2.2.2.2.2.2), (488, (I 487))]) (lE' := []) rfl rfl ?_
  refine q_blk 2 [] (c' := q_kc (0, r, m, 499, 529, ext, rx, L) I E 83 [some (.ref 473), some (.ref 488), some (.int ((I 473) 7)), some (.int (0 : Int32)), none, none] [] [(473, r24.1), (475, r24.2.1), (476, r24.2.2.1), (478, r24.2.2.2.1), (481, r24.2.2.2.2.1), (482, r24.2.2.2.2.2.1), (483, r24.2.2.2.2.2.2.1), (484, r24.2.2.2.2.2.2.2.1), (485, r24.2.2.2.2.2.2.2.2.1), (487, r24.2.2.2.2.2.2.2.2.2), (488, (I 487))] []) ok_X2_copyHalf rfl q_cn ?_
  obtain ⟨r25, hr25, hf⟩ := q_bd hf
  refine lp_X2_copyHalf_L83_473 (I := q_ws I [(473, r24.1), (475, r24.2.1), (476, r24.2.2.1), (478, r24.2.2.2.1), (481, r24.2.2.2.2.1), (482, r24.2.2.2.2.2.1), (483, r24.2.2.2.2.2.2.1), (484, r24.2.2.2.2.2.2.2.1), (485, r24.2.2.2.2.2.2.2.2.1), (487, r24.2.2.2.2.2.2.2.2.2), (488, (I 487))]) (E := q_ws E []) hd (Nat.le_of_ble_eq_true rfl) (Nat.le_of_ble_eq_true rfl) 4096 hr25 ?_
  refine q_Jmrg (lI' := [(473, r25.1), (475, r25.2.1), (476, r25.2.2.1), (478, r25.2.2.2.1), (481, r25.2.2.2.2.1), (482, r25.2.2.2.2.2.1), (483, r25.2.2.2.2.2.2.1), (484, r25.2.2.2.2.2.2.2.1), (485, r25.2.2.2.2.2.2.2.2.1), (487, r25.2.2.2.2.2.2.2.2.2), (488, (I 487))]) (lE' := []) rfl rfl ?_
  refine q_blk 3 [] (c' := q_kc (0, r, m, 499, 529, ext, rx, L) I E 118 [some (.ref 473), some (.ref 488), some (.int ((I 473) 7)), none, none, none] [.int ((I 473) 7), .ref 488, .ref 473] [(473, r25.1), (475, r25.2.1), (476, r25.2.2.1), (478, r25.2.2.2.1), (481, r25.2.2.2.2.1), (482, r25.2.2.2.2.2.1), (483, r25.2.2.2.2.2.2.1), (484, r25.2.2.2.2.2.2.2.1), (485, r25.2.2.2.2.2.2.2.2.1), (487, r25.2.2.2.2.2.2.2.2.2), (488, (I 487))] []) ok_X2_copyHalf rfl q_cn ?_
  obtain ⟨r26, hr26, hf⟩ := q_bd hf
  refine q_kV (M2 := m_X2_loseRest) (As := [.ref 488, .int ((I 473) 7)]) (b := 473) (v2 := some (.int r26.1)) ok_X2_copyHalf ok_X2_loseRest cv_X2_loseRest (ct_X2_loseRest_473_488 (d := 2) (Nat.le_refl _) hr26) rfl rfl (Or.inl rfl) rfl rfl rfl rfl (Nat.le_trans (Nat.le_of_ble_eq_true rfl) hd) (Nat.le_of_ble_eq_true rfl) (Nat.le_of_ble_eq_true rfl) (Nat.le_of_ble_eq_true rfl) (fun x hx => absurd hx List.not_mem_nil) (q_nmL0 _) (q_nmS0 _) rfl (pos' := 119) (st' := [.int r26.1]) (lI' := [(473, r26.2.1), (475, r26.2.2), (476, r25.2.2.1), (478, r25.2.2.2.1), (481, r25.2.2.2.2.1), (482, r25.2.2.2.2.2.1), (483, r25.2.2.2.2.2.2.1), (484, r25.2.2.2.2.2.2.2.1), (485, r25.2.2.2.2.2.2.2.2.1), (487, r25.2.2.2.2.2.2.2.2.2), (488, (I 487))]) (lE' := []) rfl rfl rfl rfl ?_
  cases hf
  exact q_kri ok_X2_copyHalf rfl rfl rfl (Nat.le_of_ble_eq_true rfl) (Nat.le_of_ble_eq_true rfl) ⟨rfl, q_hpe (q_fin [473, 475, 476, 478, 481, 482, 483, 484, 485, 487, 488] rfl) (q_fin [] rfl)⟩
set_option maxHeartbeats 4000000 in
theorem lp_X1_add_L2_474 {g : q_G} {d mc ms : Nat} {h0 : q_H} {Q : (Option Value ⊕ String) → q_H → Prop} {k n : Nat} {t : Nat} {r : Nat} {m : Nat} {z : Nat} {N : Nat} {ext : Nat → q_Sh} {rx : Nat → Nat → Option Nat} {L : Nat → Nat → Int64} (hd : 1 ≤ d) (hk : k ≤ mc) (hn : n ≤ ms)  {v1 : Int32} {v2 : Int32} {v3 : Int32} : ∀ (fu : Nat) {I : Nat → Nat → Int32} {E : Nat → Nat → Option Nat} {v4 : Int32} {r0 : Nat × Int32} (hf : f_X1_add_L2 (I 475) fu v4 = some r0) (hK0 : r0.1 = 0 → q_J g m_X1_add d mc ms h0 [] Q k n (q_kc (t, r, m, z, N, ext, rx, L) I E 55 [none, none, none, none, none, none] [] [] [])) (hK1 : r0.1 = 1 → q_J g m_X1_add d mc ms h0 [] Q k n (q_kc (t, r, m, z, N, ext, rx, L) I E 10 [some (.ref 474), some (.int v1), some (.int v2), some (.int v3), some (.int r0.2), none] [] [] [])), q_J g m_X1_add d mc ms h0 [] Q k n (2, [some (.ref 474), some (.int v1), some (.int v2), some (.int v3), some (.int v4), none], [], q_hp (t, r, m, z, N, ext, rx, L) I E) := by
  intro fu
  induction fu with
  | zero =>
    intro I E v4 r0 hf hK0 hK1
    rw [f_X1_add_L2] at hf
    cases hf
  | succ fu ih =>
    intro I E v4 r0 hf hK0 hK1
    rw [f_X1_add_L2] at hf
    change q_J g m_X1_add d mc ms h0 [] Q k n (q_kc (t, r, m, z, N, ext, rx, L) I E 2 [some (.ref 474), some (.int v1), some (.int v2), some (.int v3), some (.int v4), none] [] [] [])
    refine q_blf 2 [] (a := q_kc (t, r, m, z, N, ext, rx, L) I E 55 [some (.ref 474), some (.int v1), some (.int v2), some (.int v3), some (.int v4), none] [] [] []) (b := q_kc (t, r, m, z, N, ext, rx, L) I E 5 [some (.ref 474), some (.int v1), some (.int v2), some (.int v3), some (.int v4), none] [] [] []) (P := (128 : Int32) ≤ v4) ok_X1_add rfl q_cn (fun h1 => ?_) (fun h1 => ?_)
    · have hf := q_ip h1 hf
      refine q_less (ls' := [none, none, none, none, none, none]) (q_sb1 (q_sb1 (q_sb1 (q_sb1 (q_sb1 (q_sb1 q_sb0)))))) ?_
      cases hf
      exact q_Jpad [] [] rfl rfl (hK0 rfl)
    · have hf := q_in h1 hf
      obtain ⟨j2, hj2, hf⟩ := q_bd hf
      refine q_blf 4 [j2] (a := q_kc (t, r, m, z, N, ext, rx, L) I E 53 [some (.ref 474), some (.int v1), some (.int v2), some (.int v3), some (.int v4), none] [] [] []) (b := q_kc (t, r, m, z, N, ext, rx, L) I E 10 [some (.ref 474), some (.int v1), some (.int v2), some (.int v3), some (.int v4), none] [] [] []) (P := ¬ ((I 475) j2) = 0) ok_X1_add rfl (q_cc hj2 q_cn) (fun h3 => ?_) (fun h3 => ?_)
      · have hf := q_ip h3 hf
        refine q_blk 2 [] (c' := q_kc (t, r, m, z, N, ext, rx, L) I E 2 [some (.ref 474), some (.int v1), some (.int v2), some (.int v3), some (.int (v4 + 1)), none] [] [] []) ok_X1_add rfl q_cn ?_
        exact ih (I := q_ws I []) (E := q_ws E []) hf (fun hz => q_Jmrg rfl rfl (hK0 hz)) (fun hz => q_Jmrg rfl rfl (hK1 hz))
      · have hf := q_in h3 hf
        cases hf
        exact q_Jpad [] [] rfl rfl (hK1 rfl)
set_option maxHeartbeats 4000000 in
theorem lp_X1_add_L37_474 {g : q_G} {d mc ms : Nat} {h0 : q_H} {Q : (Option Value ⊕ String) → q_H → Prop} {k n : Nat} {t : Nat} {r : Nat} {m : Nat} {z : Nat} {N : Nat} {ext : Nat → q_Sh} {rx : Nat → Nat → Option Nat} {L : Nat → Nat → Int64} (hd : 1 ≤ d) (hk : k ≤ mc) (hn : n ≤ ms)  {v4 : Int32} : ∀ (fu : Nat) {I : Nat → Nat → Int32} {E : Nat → Nat → Option Nat} {v5 : Int32} {r0 : (Nat → Int32)} (hf : f_X1_add_L37 v4 fu (I 480) v5 = some r0) (hK0 : q_J g m_X1_add d mc ms h0 [] Q k n (q_kc (t, r, m, z, N, ext, rx, L) I E 51 [none, none, none, none, some (.int v4), none] [] [(480, r0)] [])), q_J g m_X1_add d mc ms h0 [] Q k n (37, [some (.ref 474), none, none, none, some (.int v4), some (.int v5)], [], q_hp (t, r, m, z, N, ext, rx, L) I E) := by
  intro fu
  induction fu with
  | zero =>
    intro I E v5 r0 hf hK0
    rw [f_X1_add_L37] at hf
    cases hf
  | succ fu ih =>
    intro I E v5 r0 hf hK0
    rw [f_X1_add_L37] at hf
    change q_J g m_X1_add d mc ms h0 [] Q k n (q_kc (t, r, m, z, N, ext, rx, L) I E 37 [some (.ref 474), none, none, none, some (.int v4), some (.int v5)] [] [] [])
    refine q_blf 2 [] (a := q_kc (t, r, m, z, N, ext, rx, L) I E 51 [some (.ref 474), none, none, none, some (.int v4), some (.int v5)] [] [] []) (b := q_kc (t, r, m, z, N, ext, rx, L) I E 40 [some (.ref 474), none, none, none, some (.int v4), some (.int v5)] [] [] []) (P := (3 : Int32) ≤ v5) ok_X1_add rfl q_cn (fun h4 => ?_) (fun h4 => ?_)
    · have hf := q_ip h4 hf
      refine q_less (ls' := [none, none, none, none, some (.int v4), none]) (q_sb1 (q_sb1 (q_sb1 (q_sb1 (q_sb2 (q_sb1 q_sb0)))))) ?_
      cases hf
      exact q_Jpad [480] [] rfl rfl hK0
    · have hf := q_in h4 hf
      obtain ⟨j5, hj5, hf⟩ := q_bd hf
      refine q_blk 11 [j5] (c' := q_kc (t, r, m, z, N, ext, rx, L) I E 37 [some (.ref 474), none, none, none, some (.int v4), some (.int (v5 + 1))] [] [(480, (q_up (I 480) j5 (-1 : Int32)))] []) ok_X1_add rfl (q_cc hj5 q_cn) ?_
      exact ih (I := q_ws I [(480, (q_up (I 480) j5 (-1 : Int32)))]) (E := q_ws E []) hf (q_Jmrg rfl rfl hK0)
set_option maxHeartbeats 4000000 in
theorem ct_X1_add_474 {g : q_G} {t : Nat} {r : Nat} {m : Nat} {z : Nat} {N : Nat} {ext : Nat → q_Sh} {rx : Nat → Nat → Option Nat} {L : Nat → Nat → Int64} {d : Nat} (hd : 1 ≤ d)  {I : Nat → Nat → Int32} {E : Nat → Nat → Option Nat} {x1 : Int32} {x2 : Int32} {x3 : Int32} {r0 : Int32 × (Nat → Int32) × (Nat → Int32) × (Nat → Int32) × (Nat → Int32) × (Nat → Int32) × (Nat → Int32)} (hf : f_X1_add (I 475) (I 476) (I 477) (I 478) (I 479) (I 480) x1 x2 x3 = some r0) : q_Ct g m_X1_add d 0 0 [] [.ref 474, .int x1, .int x2, .int x3] (q_hp (t, r, m, z, N, ext, rx, L) I E) (fun o h' => o = .inl (some (.int r0.1)) ∧ h' = q_hp (t, r, m, z, N, ext, rx, L) (q_ws I [(475, r0.2.1), (476, r0.2.2.1), (477, r0.2.2.2.1), (478, r0.2.2.2.2.1), (479, r0.2.2.2.2.2.1), (480, r0.2.2.2.2.2.2)]) (q_ws E [])) := by
  rw [f_X1_add] at hf
  refine q_Ct_of ok_X1_add (Nat.le_of_ble_eq_true rfl) ?_ _ rfl rfl
  change q_J g m_X1_add d 0 0 _ [] _ 0 0 (q_kc (t, r, m, z, N, ext, rx, L) I E 0 [some (.ref 474), some (.int x1), some (.int x2), some (.int x3), none, none] [] [] [])
  refine q_blk 2 [] (c' := q_kc (t, r, m, z, N, ext, rx, L) I E 2 [some (.ref 474), some (.int x1), some (.int x2), some (.int x3), some (.int (0 : Int32)), none] [] [] []) ok_X1_add rfl q_cn ?_
  obtain ⟨r6, hr6, hf⟩ := q_bd hf
  refine lp_X1_add_L2_474 (I := q_ws I []) (E := q_ws E []) hd (Nat.le_of_ble_eq_true rfl) (Nat.le_of_ble_eq_true rfl) 4096 hr6 ?_ ?_
  · intro hz0
    have hf := q_ip hz0 hf
    refine q_Jmrg (lI' := []) (lE' := []) rfl rfl ?_
    refine q_blk 1 [] (c' := q_kc (t, r, m, z, N, ext, rx, L) I E 56 [none, none, none, none, none, none] [.int (-1 : Int32)] [] []) ok_X1_add rfl q_cn ?_
    cases hf
    exact q_kri ok_X1_add rfl rfl rfl (Nat.le_of_ble_eq_true rfl) (Nat.le_of_ble_eq_true rfl) ⟨rfl, q_hpe (q_fin [475, 476, 477, 478, 479, 480] rfl) (q_fin [] rfl)⟩
  · intro hz1
    have hf := q_in (fun h9 => absurd (hz1.symm.trans h9) (by decide)) hf
    refine q_Jmrg (lI' := []) (lE' := []) rfl rfl ?_
    obtain ⟨j7, hj7, hf⟩ := q_bd hf
    obtain ⟨j8, hj8, hf⟩ := q_bd hf
    obtain ⟨j9, hj9, hf⟩ := q_bd hf
    obtain ⟨j10, hj10, hf⟩ := q_bd hf
    obtain ⟨j11, hj11, hf⟩ := q_bd hf
    refine q_blk 27 [j7, j8, j9, j10, j11] (c' := q_kc (t, r, m, z, N, ext, rx, L) I E 37 [some (.ref 474), some (.int x1), some (.int x2), some (.int x3), some (.int r6.2), some (.int (0 : Int32))] [] [(475, (q_up (I 475) j7 (1 : Int32))), (476, (q_up (I 476) j8 x1)), (477, (q_up (I 477) j9 x2)), (478, (q_up (I 478) j10 (0 : Int32))), (479, (q_up (I 479) j11 x3))] []) ok_X1_add rfl (q_cc hj11 (q_cc hj10 (q_cc hj9 (q_cc hj8 (q_cc hj7 q_cn))))) ?_
    refine q_less (ls' := [some (.ref 474), none, none, none, some (.int r6.2), some (.int (0 : Int32))]) (q_sb2 (q_sb1 (q_sb1 (q_sb1 (q_sb2 (q_sb2 q_sb0)))))) ?_
    obtain ⟨r12, hr12, hf⟩ := q_bd hf
    refine lp_X1_add_L37_474 (I := q_ws I [(475, (q_up (I 475) j7 (1 : Int32))), (476, (q_up (I 476) j8 x1)), (477, (q_up (I 477) j9 x2)), (478, (q_up (I 478) j10 (0 : Int32))), (479, (q_up (I 479) j11 x3))]) (E := q_ws E []) hd (Nat.le_of_ble_eq_true rfl) (Nat.le_of_ble_eq_true rfl) 4096 hr12 ?_
    refine q_Jmrg (lI' := [(475, (q_up (I 475) j7 (1 : Int32))), (476, (q_up (I 476) j8 x1)), (477, (q_up (I 477) j9 x2)), (478, (q_up (I 478) j10 (0 : Int32))), (479, (q_up (I 479) j11 x3)), (480, r12)]) (lE' := []) rfl rfl ?_
    refine q_blk 1 [] (c' := q_kc (t, r, m, z, N, ext, rx, L) I E 52 [none, none, none, none, some (.int r6.2), none] [.int r6.2] [(475, (q_up (I 475) j7 (1 : Int32))), (476, (q_up (I 476) j8 x1)), (477, (q_up (I 477) j9 x2)), (478, (q_up (I 478) j10 (0 : Int32))), (479, (q_up (I 479) j11 x3)), (480, r12)] []) ok_X1_add rfl q_cn ?_
    cases hf
    exact q_kri ok_X1_add rfl rfl rfl (Nat.le_of_ble_eq_true rfl) (Nat.le_of_ble_eq_true rfl) ⟨rfl, q_hpe (q_fin [475, 476, 477, 478, 479, 480] rfl) (q_fin [] rfl)⟩
set_option maxHeartbeats 4000000 in
theorem ct_X2_hold_473 {g : q_G} {t : Nat} {r : Nat} {m : Nat} {z : Nat} {N : Nat} {ext : Nat → q_Sh} {rx : Nat → Nat → Option Nat} {L : Nat → Nat → Int64} {d : Nat} (hd : 1 ≤ d)  {I : Nat → Nat → Int32} {E : Nat → Nat → Option Nat} {x1 : Int32} {x2 : Int32} {r0 : (Nat → Int32)} (hf : f_X2_hold (I 486) x1 x2 = some r0) : q_Ct g m_X2_hold d 0 0 [] [.ref 473, .int x1, .int x2] (q_hp (t, r, m, z, N, ext, rx, L) I E) (fun o h' => o = .inl none ∧ h' = q_hp (t, r, m, z, N, ext, rx, L) (q_ws I [(486, r0)]) (q_ws E [])) := by
  rw [f_X2_hold] at hf
  refine q_Ct_of ok_X2_hold (Nat.le_of_ble_eq_true rfl) ?_ _ rfl rfl
  change q_J g m_X2_hold d 0 0 _ [] _ 0 0 (q_kc (t, r, m, z, N, ext, rx, L) I E 0 [some (.ref 473), some (.int x1), some (.int x2)] [] [] [])
  refine q_blf 1 [] (a := q_kc (t, r, m, z, N, ext, rx, L) I E 10 [some (.ref 473), some (.int x1), some (.int x2)] [] [] []) (b := q_kc (t, r, m, z, N, ext, rx, L) I E 2 [some (.ref 473), some (.int x1), some (.int x2)] [] [] []) (P := x1 < 0) ok_X2_hold rfl q_cn (fun h1 => ?_) (fun h1 => ?_)
  · have hf := q_ip h1 hf
    cases hf
    exact q_krv ok_X2_hold rfl rfl (Nat.le_of_ble_eq_true rfl) (Nat.le_of_ble_eq_true rfl) ⟨rfl, q_hpe (q_fin [486] rfl) (q_fin [] rfl)⟩
  · have hf := q_in h1 hf
    refine q_blf 2 [] (a := q_kc (t, r, m, z, N, ext, rx, L) I E 10 [some (.ref 473), some (.int x1), some (.int x2)] [] [] []) (b := q_kc (t, r, m, z, N, ext, rx, L) I E 5 [some (.ref 473), some (.int x1), some (.int x2)] [] [] []) (P := (6 : Int32) ≤ x1) ok_X2_hold rfl q_cn (fun h2 => ?_) (fun h2 => ?_)
    · have hf := q_ip h2 hf
      cases hf
      exact q_krv ok_X2_hold rfl rfl (Nat.le_of_ble_eq_true rfl) (Nat.le_of_ble_eq_true rfl) ⟨rfl, q_hpe (q_fin [486] rfl) (q_fin [] rfl)⟩
    · have hf := q_in h2 hf
      obtain ⟨j3, hj3, hf⟩ := q_bd hf
      refine q_blk 5 [j3] (c' := q_kc (t, r, m, z, N, ext, rx, L) I E 10 [some (.ref 473), some (.int x1), some (.int x2)] [] [(486, (q_up (I 486) j3 x2))] []) ok_X2_hold rfl (q_cc hj3 q_cn) ?_
      cases hf
      exact q_krv ok_X2_hold rfl rfl (Nat.le_of_ble_eq_true rfl) (Nat.le_of_ble_eq_true rfl) ⟨rfl, q_hpe (q_fin [486] rfl) (q_fin [] rfl)⟩
set_option maxHeartbeats 4000000 in
theorem ct_X2_makeBale_473 {g : q_G} {r : Nat} {m : Nat} {ext : Nat → q_Sh} {rx : Nat → Nat → Option Nat} {L : Nat → Nat → Int64} {d : Nat} (hd : 4 ≤ d)  {I : Nat → Nat → Int32} {E : Nat → Nat → Option Nat} {x1 : Int32} {x2 : Int32} {x3 : Int32} {r0 : Bool × (Nat → Int32) × (Nat → Int32) × (Nat → Int32) × (Nat → Int32) × (Nat → Int32) × (Nat → Int32) × (Nat → Int32) × (Nat → Int32) × (Nat → Int32) × (Nat → Int32) × (Nat → Int32) × (Nat → Int32) × (Nat → Int32) × (Nat → Int32) × (Nat → Int32)} (hf : f_X2_makeBale (I 402) (I 473) (I 475) (I 476) (I 477) (I 478) (I 479) (I 480) (I 481) (I 482) (I 483) (I 484) (I 485) (I 486) (I 487) (I 488) x1 x2 x3 = some r0) : q_Ct g m_X2_makeBale d 0 0 [487, 488] [.ref 473, .int x1, .int x2, .int x3] (q_hp (0, r, m, 499, 529, ext, rx, L) I E) (fun o h' => o = .inl (some (.int (q_bz r0.1))) ∧ h' = q_hp (0, r, m, 499, 529, ext, rx, L) (q_ws I [(473, r0.2.1), (475, r0.2.2.1), (476, r0.2.2.2.1), (477, r0.2.2.2.2.1), (478, r0.2.2.2.2.2.1), (479, r0.2.2.2.2.2.2.1), (480, r0.2.2.2.2.2.2.2.1), (481, r0.2.2.2.2.2.2.2.2.1), (482, r0.2.2.2.2.2.2.2.2.2.1), (483, r0.2.2.2.2.2.2.2.2.2.2.1), (484, r0.2.2.2.2.2.2.2.2.2.2.2.1), (485, r0.2.2.2.2.2.2.2.2.2.2.2.2.1), (486, r0.2.2.2.2.2.2.2.2.2.2.2.2.2.1), (487, r0.2.2.2.2.2.2.2.2.2.2.2.2.2.2.1), (488, r0.2.2.2.2.2.2.2.2.2.2.2.2.2.2.2)]) (q_ws E [])) := by
  rw [f_X2_makeBale] at hf
  refine q_Ct_of ok_X2_makeBale (Nat.le_of_ble_eq_true rfl) ?_ _ rfl rfl
  change q_J g m_X2_makeBale d 0 0 _ [487, 488] _ 0 0 (q_kc (0, r, m, 499, 529, ext, rx, L) I E 0 [some (.ref 473), some (.int x1), some (.int x2), some (.int x3), none] [] [] [])
  refine q_blk 1 [] (c' := q_kc (0, r, m, 499, 529, ext, rx, L) I E 1 [some (.ref 473), some (.int x1), some (.int x2), some (.int x3), none] [.ref 473] [] []) ok_X2_makeBale rfl q_cn ?_
  obtain ⟨r1, hr1, hf⟩ := q_bd hf
  refine q_kV (M2 := m_X2_freePlaces) (As := []) (b := 473) (v2 := some (.int r1)) ok_X2_makeBale ok_X2_freePlaces cv_X2_freePlaces (ct_X2_freePlaces_473 (d := 1) (Nat.le_refl _) hr1) rfl rfl (Or.inl rfl) rfl rfl rfl rfl (Nat.le_trans (Nat.le_of_ble_eq_true rfl) hd) (Nat.le_of_ble_eq_true rfl) (Nat.le_of_ble_eq_true rfl) (Nat.le_of_ble_eq_true rfl) (fun x hx => absurd hx List.not_mem_nil) (q_nmL0 _) (q_nmS0 _) rfl (pos' := 2) (st' := [.int r1]) (lI' := []) (lE' := []) rfl rfl rfl rfl ?_
  refine q_blf 1 [] (a := q_kc (0, r, m, 499, 529, ext, rx, L) I E 7 [some (.ref 473), some (.int x1), some (.int x2), some (.int x3), none] [] [] []) (b := q_kc (0, r, m, 499, 529, ext, rx, L) I E 4 [some (.ref 473), some (.int x1), some (.int x2), some (.int x3), none] [] [] []) (P := x2 ≤ r1) ok_X2_makeBale rfl q_cn (fun h2 => ?_) (fun h2 => ?_)
  · have hf := q_ip h2 hf
    refine q_blk 1 [] (c' := q_kc (0, r, m, 499, 529, ext, rx, L) I E 8 [some (.ref 473), some (.int x1), some (.int x2), some (.int x3), none] [.ref 473] [] []) ok_X2_makeBale rfl q_cn ?_
    obtain ⟨r3, hr3, hf⟩ := q_bd hf
    refine q_kV (M2 := m_X2_freePlaces) (As := []) (b := 473) (v2 := some (.int r3)) ok_X2_makeBale ok_X2_freePlaces cv_X2_freePlaces (ct_X2_freePlaces_473 (d := 1) (Nat.le_refl _) hr3) rfl rfl (Or.inl rfl) rfl rfl rfl rfl (Nat.le_trans (Nat.le_of_ble_eq_true rfl) hd) (Nat.le_of_ble_eq_true rfl) (Nat.le_of_ble_eq_true rfl) (Nat.le_of_ble_eq_true rfl) (fun x hx => absurd hx List.not_mem_nil) (q_nmL0 _) (q_nmS0 _) rfl (pos' := 9) (st' := [.int r3]) (lI' := []) (lE' := []) rfl rfl rfl rfl ?_
    refine q_blf 1 [] (a := q_kc (0, r, m, 499, 529, ext, rx, L) I E 13 [some (.ref 473), some (.int x1), some (.int x2), some (.int x3), none] [] [] []) (b := q_kc (0, r, m, 499, 529, ext, rx, L) I E 11 [some (.ref 473), some (.int x1), some (.int x2), some (.int x3), none] [] [] []) (P := x2 ≤ r3) ok_X2_makeBale rfl q_cn (fun h4 => ?_) (fun h4 => ?_)
    · have hf := q_ip h4 hf
      refine q_blk 6 [] (c' := q_kc (0, r, m, 499, 529, ext, rx, L) I E 19 [some (.ref 473), some (.int x1), some (.int x2), some (.int x3), none] [.int x3, .int x2, .int ((I 473) 8), .ref 474] [] []) ok_X2_makeBale rfl q_cn ?_
      obtain ⟨r5, hr5, hf⟩ := q_bd hf
      refine q_kV (M2 := m_X1_add) (As := [.int ((I 473) 8), .int x2, .int x3]) (b := 474) (v2 := some (.int r5.1)) ok_X2_makeBale ok_X1_add cv_X1_add (ct_X1_add_474 (d := 1) (Nat.le_refl _) hr5) rfl rfl (Or.inl rfl) rfl rfl rfl rfl (Nat.le_trans (Nat.le_of_ble_eq_true rfl) hd) (Nat.le_of_ble_eq_true rfl) (Nat.le_of_ble_eq_true rfl) (Nat.le_of_ble_eq_true rfl) (fun x hx => absurd hx List.not_mem_nil) (q_nmL0 _) (q_nmS0 _) rfl (pos' := 20) (st' := [.int r5.1]) (lI' := [(475, r5.2.1), (476, r5.2.2.1), (477, r5.2.2.2.1), (478, r5.2.2.2.2.1), (479, r5.2.2.2.2.2.1), (480, r5.2.2.2.2.2.2)]) (lE' := []) rfl rfl rfl rfl ?_
      refine q_blf 3 [] (a := q_kc (0, r, m, 499, 529, ext, rx, L) I E 26 [some (.ref 473), some (.int x1), some (.int x2), some (.int x3), some (.int r5.1)] [] [(475, r5.2.1), (476, r5.2.2.1), (477, r5.2.2.2.1), (478, r5.2.2.2.2.1), (479, r5.2.2.2.2.2.1), (480, r5.2.2.2.2.2.2)] []) (b := q_kc (0, r, m, 499, 529, ext, rx, L) I E 24 [some (.ref 473), some (.int x1), some (.int x2), some (.int x3), some (.int r5.1)] [] [(475, r5.2.1), (476, r5.2.2.1), (477, r5.2.2.2.1), (478, r5.2.2.2.2.1), (479, r5.2.2.2.2.2.1), (480, r5.2.2.2.2.2.2)] []) (P := ¬ r5.1 = (-1 : Int32)) ok_X2_makeBale rfl q_cn (fun h6 => ?_) (fun h6 => ?_)
      · have hf := q_ip h6 hf
        refine q_blk 3 [] (c' := q_kc (0, r, m, 499, 529, ext, rx, L) I E 29 [some (.ref 473), some (.int x1), some (.int x2), some (.int x3), some (.int r5.1)] [.int r5.1, .int x1, .ref 473] [(475, r5.2.1), (476, r5.2.2.1), (477, r5.2.2.2.1), (478, r5.2.2.2.2.1), (479, r5.2.2.2.2.2.1), (480, r5.2.2.2.2.2.2)] []) ok_X2_makeBale rfl q_cn ?_
        obtain ⟨r7, hr7, hf⟩ := q_bd hf
        refine q_kV (M2 := m_X2_hold) (As := [.int x1, .int r5.1]) (b := 473) (v2 := none) ok_X2_makeBale ok_X2_hold cv_X2_hold (ct_X2_hold_473 (d := 1) (Nat.le_refl _) hr7) rfl rfl (Or.inl rfl) rfl rfl rfl rfl (Nat.le_trans (Nat.le_of_ble_eq_true rfl) hd) (Nat.le_of_ble_eq_true rfl) (Nat.le_of_ble_eq_true rfl) (Nat.le_of_ble_eq_true rfl) (fun x hx => absurd hx List.not_mem_nil) (q_nmL0 _) (q_nmS0 _) rfl (pos' := 30) (st' := []) (lI' := [(475, r5.2.1), (476, r5.2.2.1), (477, r5.2.2.2.1), (478, r5.2.2.2.2.1), (479, r5.2.2.2.2.2.1), (480, r5.2.2.2.2.2.2), (486, r7)]) (lE' := []) rfl rfl rfl rfl ?_
        refine q_blk 3 [] (c' := q_kc (0, r, m, 499, 529, ext, rx, L) I E 33 [some (.ref 473), some (.int x1), some (.int x2), some (.int x3), some (.int r5.1)] [.int x2, .int r5.1, .ref 473] [(475, r5.2.1), (476, r5.2.2.1), (477, r5.2.2.2.1), (478, r5.2.2.2.2.1), (479, r5.2.2.2.2.2.1), (480, r5.2.2.2.2.2.2), (486, r7)] []) ok_X2_makeBale rfl q_cn ?_
        obtain ⟨r8, hr8, hf⟩ := q_bd hf
        refine q_kV (M2 := m_X2_layInRow) (As := [.int r5.1, .int x2]) (b := 473) (v2 := none) ok_X2_makeBale ok_X2_layInRow cv_X2_layInRow (ct_X2_layInRow_473 (d := 1) (Nat.le_refl _) hr8) rfl rfl (Or.inl rfl) rfl rfl rfl rfl (Nat.le_trans (Nat.le_of_ble_eq_true rfl) hd) (Nat.le_of_ble_eq_true rfl) (Nat.le_of_ble_eq_true rfl) (Nat.le_of_ble_eq_true rfl) (fun x hx => absurd hx List.not_mem_nil) (q_nmL0 _) (q_nmS0 _) rfl (pos' := 34) (st' := []) (lI' := [(473, r8.1), (475, r5.2.1), (476, r5.2.2.1), (477, r5.2.2.2.1), (478, r5.2.2.2.2.1), (479, r5.2.2.2.2.2.1), (480, r5.2.2.2.2.2.2), (486, r7), (487, r8.2)]) (lE' := []) rfl rfl rfl rfl ?_
        refine q_blk 1 [] (c' := q_kc (0, r, m, 499, 529, ext, rx, L) I E 35 [some (.ref 473), some (.int x1), some (.int x2), some (.int x3), some (.int r5.1)] [.int (1 : Int32)] [(473, r8.1), (475, r5.2.1), (476, r5.2.2.1), (477, r5.2.2.2.1), (478, r5.2.2.2.2.1), (479, r5.2.2.2.2.2.1), (480, r5.2.2.2.2.2.2), (486, r7), (487, r8.2)] []) ok_X2_makeBale rfl q_cn ?_
        cases hf
        exact q_kri ok_X2_makeBale rfl rfl rfl (Nat.le_of_ble_eq_true rfl) (Nat.le_of_ble_eq_true rfl) ⟨rfl, q_hpe (q_fin [473, 475, 476, 477, 478, 479, 480, 481, 482, 483, 484, 485, 486, 487, 488] rfl) (q_fin [] rfl)⟩
      · have hf := q_in h6 hf
        refine q_blk 1 [] (c' := q_kc (0, r, m, 499, 529, ext, rx, L) I E 25 [some (.ref 473), some (.int x1), some (.int x2), some (.int x3), some (.int r5.1)] [.int (0 : Int32)] [(475, r5.2.1), (476, r5.2.2.1), (477, r5.2.2.2.1), (478, r5.2.2.2.2.1), (479, r5.2.2.2.2.2.1), (480, r5.2.2.2.2.2.2)] []) ok_X2_makeBale rfl q_cn ?_
        cases hf
        exact q_kri ok_X2_makeBale rfl rfl rfl (Nat.le_of_ble_eq_true rfl) (Nat.le_of_ble_eq_true rfl) ⟨rfl, q_hpe (q_fin [473, 475, 476, 477, 478, 479, 480, 481, 482, 483, 484, 485, 486, 487, 488] rfl) (q_fin [] rfl)⟩
    · have hf := q_in h4 hf
      refine q_blk 1 [] (c' := q_kc (0, r, m, 499, 529, ext, rx, L) I E 12 [some (.ref 473), some (.int x1), some (.int x2), some (.int x3), none] [.int (0 : Int32)] [] []) ok_X2_makeBale rfl q_cn ?_
      cases hf
      exact q_kri ok_X2_makeBale rfl rfl rfl (Nat.le_of_ble_eq_true rfl) (Nat.le_of_ble_eq_true rfl) ⟨rfl, q_hpe (q_fin [473, 475, 476, 477, 478, 479, 480, 481, 482, 483, 484, 485, 486, 487, 488] rfl) (q_fin [] rfl)⟩
  · have hf := q_in h2 hf
    refine q_blk 1 [] (c' := q_kc (0, r, m, 499, 529, ext, rx, L) I E 5 [some (.ref 473), some (.int x1), some (.int x2), some (.int x3), none] [.ref 473] [] []) ok_X2_makeBale rfl q_cn ?_
    obtain ⟨r9, hr9, hf⟩ := q_bd hf
    refine q_kV (M2 := m_X2_copyHalf) (As := []) (b := 473) (v2 := some (.int r9.1)) ok_X2_makeBale ok_X2_copyHalf cv_X2_copyHalf (ct_X2_copyHalf_473 (d := 3) (Nat.le_refl _) hr9) rfl rfl (Or.inl rfl) rfl rfl rfl rfl (Nat.le_trans (Nat.le_of_ble_eq_true rfl) hd) (Nat.le_of_ble_eq_true rfl) (Nat.le_of_ble_eq_true rfl) (Nat.le_of_ble_eq_true rfl) (fun x hx => hx) rfl rfl rfl (pos' := 6) (st' := [.int r9.1]) (lI' := [(473, r9.2.1), (475, r9.2.2.1), (476, r9.2.2.2.1), (478, r9.2.2.2.2.1), (481, r9.2.2.2.2.2.1), (482, r9.2.2.2.2.2.2.1), (483, r9.2.2.2.2.2.2.2.1), (484, r9.2.2.2.2.2.2.2.2.1), (485, r9.2.2.2.2.2.2.2.2.2.1), (487, r9.2.2.2.2.2.2.2.2.2.2.1), (488, r9.2.2.2.2.2.2.2.2.2.2.2)]) (lE' := []) rfl rfl rfl rfl ?_
    refine q_blk 2 [] (c' := q_kc (0, r, m, 499, 529, ext, rx, L) I E 8 [some (.ref 473), some (.int x1), some (.int x2), some (.int x3), none] [.ref 473] [(473, r9.2.1), (475, r9.2.2.1), (476, r9.2.2.2.1), (478, r9.2.2.2.2.1), (481, r9.2.2.2.2.2.1), (482, r9.2.2.2.2.2.2.1), (483, r9.2.2.2.2.2.2.2.1), (484, r9.2.2.2.2.2.2.2.2.1), (485, r9.2.2.2.2.2.2.2.2.2.1), (487, r9.2.2.2.2.2.2.2.2.2.2.1), (488, r9.2.2.2.2.2.2.2.2.2.2.2)] []) ok_X2_makeBale rfl q_cn ?_
    obtain ⟨r10, hr10, hf⟩ := q_bd hf
    refine q_kV (M2 := m_X2_freePlaces) (As := []) (b := 473) (v2 := some (.int r10)) ok_X2_makeBale ok_X2_freePlaces cv_X2_freePlaces (ct_X2_freePlaces_473 (d := 1) (Nat.le_refl _) hr10) rfl rfl (Or.inl rfl) rfl rfl rfl rfl (Nat.le_trans (Nat.le_of_ble_eq_true rfl) hd) (Nat.le_of_ble_eq_true rfl) (Nat.le_of_ble_eq_true rfl) (Nat.le_of_ble_eq_true rfl) (fun x hx => absurd hx List.not_mem_nil) (q_nmL0 _) (q_nmS0 _) rfl (pos' := 9) (st' := [.int r10]) (lI' := [(473, r9.2.1), (475, r9.2.2.1), (476, r9.2.2.2.1), (478, r9.2.2.2.2.1), (481, r9.2.2.2.2.2.1), (482, r9.2.2.2.2.2.2.1), (483, r9.2.2.2.2.2.2.2.1), (484, r9.2.2.2.2.2.2.2.2.1), (485, r9.2.2.2.2.2.2.2.2.2.1), (487, r9.2.2.2.2.2.2.2.2.2.2.1), (488, r9.2.2.2.2.2.2.2.2.2.2.2)]) (lE' := []) rfl rfl rfl rfl ?_
    refine q_blf 1 [] (a := q_kc (0, r, m, 499, 529, ext, rx, L) I E 13 [some (.ref 473), some (.int x1), some (.int x2), some (.int x3), none] [] [(473, r9.2.1), (475, r9.2.2.1), (476, r9.2.2.2.1), (478, r9.2.2.2.2.1), (481, r9.2.2.2.2.2.1), (482, r9.2.2.2.2.2.2.1), (483, r9.2.2.2.2.2.2.2.1), (484, r9.2.2.2.2.2.2.2.2.1), (485, r9.2.2.2.2.2.2.2.2.2.1), (487, r9.2.2.2.2.2.2.2.2.2.2.1), (488, r9.2.2.2.2.2.2.2.2.2.2.2)] []) (b := q_kc (0, r, m, 499, 529, ext, rx, L) I E 11 [some (.ref 473), some (.int x1), some (.int x2), some (.int x3), none] [] [(473, r9.2.1), (475, r9.2.2.1), (476, r9.2.2.2.1), (478, r9.2.2.2.2.1), (481, r9.2.2.2.2.2.1), (482, r9.2.2.2.2.2.2.1), (483, r9.2.2.2.2.2.2.2.1), (484, r9.2.2.2.2.2.2.2.2.1), (485, r9.2.2.2.2.2.2.2.2.2.1), (487, r9.2.2.2.2.2.2.2.2.2.2.1), (488, r9.2.2.2.2.2.2.2.2.2.2.2)] []) (P := x2 ≤ r10) ok_X2_makeBale rfl q_cn (fun h11 => ?_) (fun h11 => ?_)
    · have hf := q_ip h11 hf
      refine q_blk 6 [] (c' := q_kc (0, r, m, 499, 529, ext, rx, L) I E 19 [some (.ref 473), some (.int x1), some (.int x2), some (.int x3), none] [.int x3, .int x2, .int (r9.2.1 8), .ref 474] [(473, r9.2.1), (475, r9.2.2.1), (476, r9.2.2.2.1), (478, r9.2.2.2.2.1), (481, r9.2.2.2.2.2.1), (482, r9.2.2.2.2.2.2.1), (483, r9.2.2.2.2.2.2.2.1), (484, r9.2.2.2.2.2.2.2.2.1), (485, r9.2.2.2.2.2.2.2.2.2.1), (487, r9.2.2.2.2.2.2.2.2.2.2.1), (488, r9.2.2.2.2.2.2.2.2.2.2.2)] []) ok_X2_makeBale rfl q_cn ?_
      obtain ⟨r12, hr12, hf⟩ := q_bd hf
      refine q_kV (M2 := m_X1_add) (As := [.int (r9.2.1 8), .int x2, .int x3]) (b := 474) (v2 := some (.int r12.1)) ok_X2_makeBale ok_X1_add cv_X1_add (ct_X1_add_474 (d := 1) (Nat.le_refl _) hr12) rfl rfl (Or.inl rfl) rfl rfl rfl rfl (Nat.le_trans (Nat.le_of_ble_eq_true rfl) hd) (Nat.le_of_ble_eq_true rfl) (Nat.le_of_ble_eq_true rfl) (Nat.le_of_ble_eq_true rfl) (fun x hx => absurd hx List.not_mem_nil) (q_nmL0 _) (q_nmS0 _) rfl (pos' := 20) (st' := [.int r12.1]) (lI' := [(473, r9.2.1), (475, r12.2.1), (476, r12.2.2.1), (477, r12.2.2.2.1), (478, r12.2.2.2.2.1), (479, r12.2.2.2.2.2.1), (480, r12.2.2.2.2.2.2), (481, r9.2.2.2.2.2.1), (482, r9.2.2.2.2.2.2.1), (483, r9.2.2.2.2.2.2.2.1), (484, r9.2.2.2.2.2.2.2.2.1), (485, r9.2.2.2.2.2.2.2.2.2.1), (487, r9.2.2.2.2.2.2.2.2.2.2.1), (488, r9.2.2.2.2.2.2.2.2.2.2.2)]) (lE' := []) rfl rfl rfl rfl ?_
      refine q_blf 3 [] (a := q_kc (0, r, m, 499, 529, ext, rx, L) I E 26 [some (.ref 473), some (.int x1), some (.int x2), some (.int x3), some (.int r12.1)] [] [(473, r9.2.1), (475, r12.2.1), (476, r12.2.2.1), (477, r12.2.2.2.1), (478, r12.2.2.2.2.1), (479, r12.2.2.2.2.2.1), (480, r12.2.2.2.2.2.2), (481, r9.2.2.2.2.2.1), (482, r9.2.2.2.2.2.2.1), (483, r9.2.2.2.2.2.2.2.1), (484, r9.2.2.2.2.2.2.2.2.1), (485, r9.2.2.2.2.2.2.2.2.2.1), (487, r9.2.2.2.2.2.2.2.2.2.2.1), (488, r9.2.2.2.2.2.2.2.2.2.2.2)] []) (b := q_kc (0, r, m, 499, 529, ext, rx, L) I E 24 [some (.ref 473), some (.int x1), some (.int x2), some (.int x3), some (.int r12.1)] [] [(473, r9.2.1), (475, r12.2.1), (476, r12.2.2.1), (477, r12.2.2.2.1), (478, r12.2.2.2.2.1), (479, r12.2.2.2.2.2.1), (480, r12.2.2.2.2.2.2), (481, r9.2.2.2.2.2.1), (482, r9.2.2.2.2.2.2.1), (483, r9.2.2.2.2.2.2.2.1), (484, r9.2.2.2.2.2.2.2.2.1), (485, r9.2.2.2.2.2.2.2.2.2.1), (487, r9.2.2.2.2.2.2.2.2.2.2.1), (488, r9.2.2.2.2.2.2.2.2.2.2.2)] []) (P := ¬ r12.1 = (-1 : Int32)) ok_X2_makeBale rfl q_cn (fun h13 => ?_) (fun h13 => ?_)
      · have hf := q_ip h13 hf
        refine q_blk 3 [] (c' := q_kc (0, r, m, 499, 529, ext, rx, L) I E 29 [some (.ref 473), some (.int x1), some (.int x2), some (.int x3), some (.int r12.1)] [.int r12.1, .int x1, .ref 473] [(473, r9.2.1), (475, r12.2.1), (476, r12.2.2.1), (477, r12.2.2.2.1), (478, r12.2.2.2.2.1), (479, r12.2.2.2.2.2.1), (480, r12.2.2.2.2.2.2), (481, r9.2.2.2.2.2.1), (482, r9.2.2.2.2.2.2.1), (483, r9.2.2.2.2.2.2.2.1), (484, r9.2.2.2.2.2.2.2.2.1), (485, r9.2.2.2.2.2.2.2.2.2.1), (487, r9.2.2.2.2.2.2.2.2.2.2.1), (488, r9.2.2.2.2.2.2.2.2.2.2.2)] []) ok_X2_makeBale rfl q_cn ?_
        obtain ⟨r14, hr14, hf⟩ := q_bd hf
        refine q_kV (M2 := m_X2_hold) (As := [.int x1, .int r12.1]) (b := 473) (v2 := none) ok_X2_makeBale ok_X2_hold cv_X2_hold (ct_X2_hold_473 (d := 1) (Nat.le_refl _) hr14) rfl rfl (Or.inl rfl) rfl rfl rfl rfl (Nat.le_trans (Nat.le_of_ble_eq_true rfl) hd) (Nat.le_of_ble_eq_true rfl) (Nat.le_of_ble_eq_true rfl) (Nat.le_of_ble_eq_true rfl) (fun x hx => absurd hx List.not_mem_nil) (q_nmL0 _) (q_nmS0 _) rfl (pos' := 30) (st' := []) (lI' := [(473, r9.2.1), (475, r12.2.1), (476, r12.2.2.1), (477, r12.2.2.2.1), (478, r12.2.2.2.2.1), (479, r12.2.2.2.2.2.1), (480, r12.2.2.2.2.2.2), (481, r9.2.2.2.2.2.1), (482, r9.2.2.2.2.2.2.1), (483, r9.2.2.2.2.2.2.2.1), (484, r9.2.2.2.2.2.2.2.2.1), (485, r9.2.2.2.2.2.2.2.2.2.1), (486, r14), (487, r9.2.2.2.2.2.2.2.2.2.2.1), (488, r9.2.2.2.2.2.2.2.2.2.2.2)]) (lE' := []) rfl rfl rfl rfl ?_
        refine q_blk 3 [] (c' := q_kc (0, r, m, 499, 529, ext, rx, L) I E 33 [some (.ref 473), some (.int x1), some (.int x2), some (.int x3), some (.int r12.1)] [.int x2, .int r12.1, .ref 473] [(473, r9.2.1), (475, r12.2.1), (476, r12.2.2.1), (477, r12.2.2.2.1), (478, r12.2.2.2.2.1), (479, r12.2.2.2.2.2.1), (480, r12.2.2.2.2.2.2), (481, r9.2.2.2.2.2.1), (482, r9.2.2.2.2.2.2.1), (483, r9.2.2.2.2.2.2.2.1), (484, r9.2.2.2.2.2.2.2.2.1), (485, r9.2.2.2.2.2.2.2.2.2.1), (486, r14), (487, r9.2.2.2.2.2.2.2.2.2.2.1), (488, r9.2.2.2.2.2.2.2.2.2.2.2)] []) ok_X2_makeBale rfl q_cn ?_
        obtain ⟨r15, hr15, hf⟩ := q_bd hf
        refine q_kV (M2 := m_X2_layInRow) (As := [.int r12.1, .int x2]) (b := 473) (v2 := none) ok_X2_makeBale ok_X2_layInRow cv_X2_layInRow (ct_X2_layInRow_473 (d := 1) (Nat.le_refl _) hr15) rfl rfl (Or.inl rfl) rfl rfl rfl rfl (Nat.le_trans (Nat.le_of_ble_eq_true rfl) hd) (Nat.le_of_ble_eq_true rfl) (Nat.le_of_ble_eq_true rfl) (Nat.le_of_ble_eq_true rfl) (fun x hx => absurd hx List.not_mem_nil) (q_nmL0 _) (q_nmS0 _) rfl (pos' := 34) (st' := []) (lI' := [(473, r15.1), (475, r12.2.1), (476, r12.2.2.1), (477, r12.2.2.2.1), (478, r12.2.2.2.2.1), (479, r12.2.2.2.2.2.1), (480, r12.2.2.2.2.2.2), (481, r9.2.2.2.2.2.1), (482, r9.2.2.2.2.2.2.1), (483, r9.2.2.2.2.2.2.2.1), (484, r9.2.2.2.2.2.2.2.2.1), (485, r9.2.2.2.2.2.2.2.2.2.1), (486, r14), (487, r15.2), (488, r9.2.2.2.2.2.2.2.2.2.2.2)]) (lE' := []) rfl rfl rfl rfl ?_
        refine q_blk 1 [] (c' := q_kc (0, r, m, 499, 529, ext, rx, L) I E 35 [some (.ref 473), some (.int x1), some (.int x2), some (.int x3), some (.int r12.1)] [.int (1 : Int32)] [(473, r15.1), (475, r12.2.1), (476, r12.2.2.1), (477, r12.2.2.2.1), (478, r12.2.2.2.2.1), (479, r12.2.2.2.2.2.1), (480, r12.2.2.2.2.2.2), (481, r9.2.2.2.2.2.1), (482, r9.2.2.2.2.2.2.1), (483, r9.2.2.2.2.2.2.2.1), (484, r9.2.2.2.2.2.2.2.2.1), (485, r9.2.2.2.2.2.2.2.2.2.1), (486, r14), (487, r15.2), (488, r9.2.2.2.2.2.2.2.2.2.2.2)] []) ok_X2_makeBale rfl q_cn ?_
        cases hf
        exact q_kri ok_X2_makeBale rfl rfl rfl (Nat.le_of_ble_eq_true rfl) (Nat.le_of_ble_eq_true rfl) ⟨rfl, q_hpe (q_fin [473, 475, 476, 477, 478, 479, 480, 481, 482, 483, 484, 485, 486, 487, 488] rfl) (q_fin [] rfl)⟩
      · have hf := q_in h13 hf
        refine q_blk 1 [] (c' := q_kc (0, r, m, 499, 529, ext, rx, L) I E 25 [some (.ref 473), some (.int x1), some (.int x2), some (.int x3), some (.int r12.1)] [.int (0 : Int32)] [(473, r9.2.1), (475, r12.2.1), (476, r12.2.2.1), (477, r12.2.2.2.1), (478, r12.2.2.2.2.1), (479, r12.2.2.2.2.2.1), (480, r12.2.2.2.2.2.2), (481, r9.2.2.2.2.2.1), (482, r9.2.2.2.2.2.2.1), (483, r9.2.2.2.2.2.2.2.1), (484, r9.2.2.2.2.2.2.2.2.1), (485, r9.2.2.2.2.2.2.2.2.2.1), (487, r9.2.2.2.2.2.2.2.2.2.2.1), (488, r9.2.2.2.2.2.2.2.2.2.2.2)] []) ok_X2_makeBale rfl q_cn ?_
        cases hf
        exact q_kri ok_X2_makeBale rfl rfl rfl (Nat.le_of_ble_eq_true rfl) (Nat.le_of_ble_eq_true rfl) ⟨rfl, q_hpe (q_fin [473, 475, 476, 477, 478, 479, 480, 481, 482, 483, 484, 485, 486, 487, 488] rfl) (q_fin [] rfl)⟩
    · have hf := q_in h11 hf
      refine q_blk 1 [] (c' := q_kc (0, r, m, 499, 529, ext, rx, L) I E 12 [some (.ref 473), some (.int x1), some (.int x2), some (.int x3), none] [.int (0 : Int32)] [(473, r9.2.1), (475, r9.2.2.1), (476, r9.2.2.2.1), (478, r9.2.2.2.2.1), (481, r9.2.2.2.2.2.1), (482, r9.2.2.2.2.2.2.1), (483, r9.2.2.2.2.2.2.2.1), (484, r9.2.2.2.2.2.2.2.2.1), (485, r9.2.2.2.2.2.2.2.2.2.1), (487, r9.2.2.2.2.2.2.2.2.2.2.1), (488, r9.2.2.2.2.2.2.2.2.2.2.2)] []) ok_X2_makeBale rfl q_cn ?_
      cases hf
      exact q_kri ok_X2_makeBale rfl rfl rfl (Nat.le_of_ble_eq_true rfl) (Nat.le_of_ble_eq_true rfl) ⟨rfl, q_hpe (q_fin [473, 475, 476, 477, 478, 479, 480, 481, 482, 483, 484, 485, 486, 487, 488] rfl) (q_fin [] rfl)⟩
set_option maxHeartbeats 4000000 in
theorem ct_X1_setLead_474 {g : q_G} {t : Nat} {r : Nat} {m : Nat} {z : Nat} {N : Nat} {ext : Nat → q_Sh} {rx : Nat → Nat → Option Nat} {L : Nat → Nat → Int64} {d : Nat} (hd : 2 ≤ d)  {I : Nat → Nat → Int32} {E : Nat → Nat → Option Nat} {x1 : Int32} {x2 : Int32} {x3 : Int32} {r0 : (Nat → Int32)} (hf : f_X1_setLead (I 479) (I 480) x1 x2 x3 = some r0) : q_Ct g m_X1_setLead d 0 0 [] [.ref 474, .int x1, .int x2, .int x3] (q_hp (t, r, m, z, N, ext, rx, L) I E) (fun o h' => o = .inl none ∧ h' = q_hp (t, r, m, z, N, ext, rx, L) (q_ws I [(480, r0)]) (q_ws E [])) := by
  rw [f_X1_setLead] at hf
  refine q_Ct_of ok_X1_setLead (Nat.le_of_ble_eq_true rfl) ?_ _ rfl rfl
  change q_J g m_X1_setLead d 0 0 _ [] _ 0 0 (q_kc (t, r, m, z, N, ext, rx, L) I E 0 [some (.ref 474), some (.int x1), some (.int x2), some (.int x3)] [] [] [])
  refine q_blk 3 [] (c' := q_kc (t, r, m, z, N, ext, rx, L) I E 3 [some (.ref 474), some (.int x1), some (.int x2), some (.int x3)] [.int x2, .int x1, .ref 474] [] []) ok_X1_setLead rfl q_cn ?_
  obtain ⟨r1, hr1, hf⟩ := q_bd hf
  refine q_kV (M2 := m_X1_hasRope) (As := [.int x1, .int x2]) (b := 474) (v2 := some (.int (q_bz r1))) ok_X1_setLead ok_X1_hasRope cv_X1_hasRope (ct_X1_hasRope_474 (d := 1) (Nat.le_refl _) hr1) rfl rfl (Or.inl rfl) rfl rfl rfl rfl (Nat.le_trans (Nat.le_of_ble_eq_true rfl) hd) (Nat.le_of_ble_eq_true rfl) (Nat.le_of_ble_eq_true rfl) (Nat.le_of_ble_eq_true rfl) (fun x hx => absurd hx List.not_mem_nil) (q_nmL0 _) (q_nmS0 _) rfl (pos' := 4) (st' := [.int (q_bz r1)]) (lI' := []) (lE' := []) rfl rfl rfl rfl ?_
  refine q_blf 0 [] (a := q_kc (t, r, m, z, N, ext, rx, L) I E 14 [some (.ref 474), some (.int x1), some (.int x2), some (.int x3)] [] [] []) (b := q_kc (t, r, m, z, N, ext, rx, L) I E 5 [some (.ref 474), some (.int x1), some (.int x2), some (.int x3)] [] [] []) (P := (q_bz r1) = 0) ok_X1_setLead rfl q_cn (fun h2 => ?_) (fun h2 => ?_)
  · have hf := q_ip h2 hf
    cases hf
    exact q_krv ok_X1_setLead rfl rfl (Nat.le_of_ble_eq_true rfl) (Nat.le_of_ble_eq_true rfl) ⟨rfl, q_hpe (q_fin [480] rfl) (q_fin [] rfl)⟩
  · have hf := q_in h2 hf
    obtain ⟨j3, hj3, hf⟩ := q_bd hf
    refine q_blk 9 [j3] (c' := q_kc (t, r, m, z, N, ext, rx, L) I E 14 [some (.ref 474), some (.int x1), some (.int x2), some (.int x3)] [] [(480, (q_up (I 480) j3 x3))] []) ok_X1_setLead rfl (q_cc hj3 q_cn) ?_
    cases hf
    exact q_krv ok_X1_setLead rfl rfl (Nat.le_of_ble_eq_true rfl) (Nat.le_of_ble_eq_true rfl) ⟨rfl, q_hpe (q_fin [480] rfl) (q_fin [] rfl)⟩
set_option maxHeartbeats 4000000 in
theorem ct_X2_tieRope_473 {g : q_G} {t : Nat} {r : Nat} {m : Nat} {z : Nat} {N : Nat} {ext : Nat → q_Sh} {rx : Nat → Nat → Option Nat} {L : Nat → Nat → Int64} {d : Nat} (hd : 3 ≤ d)  {I : Nat → Nat → Int32} {E : Nat → Nat → Option Nat} {x1 : Int32} {x2 : Int32} {x3 : Int32} {r0 : Bool × (Nat → Int32)} (hf : f_X2_tieRope (I 479) (I 480) (I 486) x1 x2 x3 = some r0) : q_Ct g m_X2_tieRope d 0 0 [] [.ref 473, .int x1, .int x2, .int x3] (q_hp (t, r, m, z, N, ext, rx, L) I E) (fun o h' => o = .inl (some (.int (q_bz r0.1))) ∧ h' = q_hp (t, r, m, z, N, ext, rx, L) (q_ws I [(480, r0.2)]) (q_ws E [])) := by
  rw [f_X2_tieRope] at hf
  refine q_Ct_of ok_X2_tieRope (Nat.le_of_ble_eq_true rfl) ?_ _ rfl rfl
  change q_J g m_X2_tieRope d 0 0 _ [] _ 0 0 (q_kc (t, r, m, z, N, ext, rx, L) I E 0 [some (.ref 473), some (.int x1), some (.int x2), some (.int x3), none] [] [] [])
  refine q_blk 2 [] (c' := q_kc (t, r, m, z, N, ext, rx, L) I E 2 [some (.ref 473), some (.int x1), some (.int x2), some (.int x3), none] [.int x1, .ref 473] [] []) ok_X2_tieRope rfl q_cn ?_
  obtain ⟨r1, hr1, hf⟩ := q_bd hf
  refine q_kV (M2 := m_X2_held) (As := [.int x1]) (b := 473) (v2 := some (.int r1)) ok_X2_tieRope ok_X2_held cv_X2_held (ct_X2_held_473 (d := 1) (Nat.le_refl _) hr1) rfl rfl (Or.inl rfl) rfl rfl rfl rfl (Nat.le_trans (Nat.le_of_ble_eq_true rfl) hd) (Nat.le_of_ble_eq_true rfl) (Nat.le_of_ble_eq_true rfl) (Nat.le_of_ble_eq_true rfl) (fun x hx => absurd hx List.not_mem_nil) (q_nmL0 _) (q_nmS0 _) rfl (pos' := 3) (st' := [.int r1]) (lI' := []) (lE' := []) rfl rfl rfl rfl ?_
  refine q_blk 3 [] (c' := q_kc (t, r, m, z, N, ext, rx, L) I E 6 [some (.ref 473), some (.int x1), some (.int x2), some (.int x3), some (.int r1)] [.int x3, .ref 473] [] []) ok_X2_tieRope rfl q_cn ?_
  obtain ⟨r2, hr2, hf⟩ := q_bd hf
  refine q_kV (M2 := m_X2_held) (As := [.int x3]) (b := 473) (v2 := some (.int r2)) ok_X2_tieRope ok_X2_held cv_X2_held (ct_X2_held_473 (d := 1) (Nat.le_refl _) hr2) rfl rfl (Or.inl rfl) rfl rfl rfl rfl (Nat.le_trans (Nat.le_of_ble_eq_true rfl) hd) (Nat.le_of_ble_eq_true rfl) (Nat.le_of_ble_eq_true rfl) (Nat.le_of_ble_eq_true rfl) (fun x hx => absurd hx List.not_mem_nil) (q_nmL0 _) (q_nmS0 _) rfl (pos' := 7) (st' := [.int r2]) (lI' := []) (lE' := []) rfl rfl rfl rfl ?_
  refine q_blf 1 [] (a := q_kc (t, r, m, z, N, ext, rx, L) I E 15 [some (.ref 473), some (.int x1), some (.int x2), some (.int x3), some (.int r1)] [] [] []) (b := q_kc (t, r, m, z, N, ext, rx, L) I E 9 [some (.ref 473), some (.int x1), some (.int x2), some (.int x3), some (.int r1)] [] [] []) (P := r2 = (-1 : Int32)) ok_X2_tieRope rfl q_cn (fun h3 => ?_) (fun h3 => ?_)
  · have hf := q_ip h3 hf
    refine q_blk 1 [] (c' := q_kc (t, r, m, z, N, ext, rx, L) I E 16 [some (.ref 473), some (.int x1), some (.int x2), some (.int x3), some (.int r1)] [.int (0 : Int32)] [] []) ok_X2_tieRope rfl q_cn ?_
    cases hf
    exact q_kri ok_X2_tieRope rfl rfl rfl (Nat.le_of_ble_eq_true rfl) (Nat.le_of_ble_eq_true rfl) ⟨rfl, q_hpe (q_fin [480] rfl) (q_fin [] rfl)⟩
  · have hf := q_in h3 hf
    refine q_blk 4 [] (c' := q_kc (t, r, m, z, N, ext, rx, L) I E 13 [some (.ref 473), some (.int x1), some (.int x2), some (.int x3), some (.int r1)] [.int x2, .int r1, .ref 474] [] []) ok_X2_tieRope rfl q_cn ?_
    obtain ⟨r4, hr4, hf⟩ := q_bd hf
    refine q_kV (M2 := m_X1_hasRope) (As := [.int r1, .int x2]) (b := 474) (v2 := some (.int (q_bz r4))) ok_X2_tieRope ok_X1_hasRope cv_X1_hasRope (ct_X1_hasRope_474 (d := 1) (Nat.le_refl _) hr4) rfl rfl (Or.inl rfl) rfl rfl rfl rfl (Nat.le_trans (Nat.le_of_ble_eq_true rfl) hd) (Nat.le_of_ble_eq_true rfl) (Nat.le_of_ble_eq_true rfl) (Nat.le_of_ble_eq_true rfl) (fun x hx => absurd hx List.not_mem_nil) (q_nmL0 _) (q_nmS0 _) rfl (pos' := 14) (st' := [.int (q_bz r4)]) (lI' := []) (lE' := []) rfl rfl rfl rfl ?_
    refine q_blf 0 [] (a := q_kc (t, r, m, z, N, ext, rx, L) I E 17 [some (.ref 473), some (.int x1), some (.int x2), some (.int x3), some (.int r1)] [] [] []) (b := q_kc (t, r, m, z, N, ext, rx, L) I E 15 [some (.ref 473), some (.int x1), some (.int x2), some (.int x3), some (.int r1)] [] [] []) (P := ¬ (q_bz r4) = 0) ok_X2_tieRope rfl q_cn (fun h5 => ?_) (fun h5 => ?_)
    · have hf := q_ip h5 hf
      refine q_blk 6 [] (c' := q_kc (t, r, m, z, N, ext, rx, L) I E 23 [some (.ref 473), some (.int x1), some (.int x2), some (.int x3), some (.int r1)] [.int x3, .ref 473, .int x2, .int r1, .ref 474] [] []) ok_X2_tieRope rfl q_cn ?_
      obtain ⟨r6, hr6, hf⟩ := q_bd hf
      refine q_kV (M2 := m_X2_held) (As := [.int x3]) (b := 473) (v2 := some (.int r6)) ok_X2_tieRope ok_X2_held cv_X2_held (ct_X2_held_473 (d := 1) (Nat.le_refl _) hr6) rfl rfl (Or.inl rfl) rfl rfl rfl rfl (Nat.le_trans (Nat.le_of_ble_eq_true rfl) hd) (Nat.le_of_ble_eq_true rfl) (Nat.le_of_ble_eq_true rfl) (Nat.le_of_ble_eq_true rfl) (fun x hx => absurd hx List.not_mem_nil) (q_nmL0 _) (q_nmS0 _) rfl (pos' := 24) (st' := [.int r6, .int x2, .int r1, .ref 474]) (lI' := []) (lE' := []) rfl rfl rfl rfl ?_
      obtain ⟨r7, hr7, hf⟩ := q_bd hf
      refine q_kV (M2 := m_X1_setLead) (As := [.int r1, .int x2, .int r6]) (b := 474) (v2 := none) ok_X2_tieRope ok_X1_setLead cv_X1_setLead (ct_X1_setLead_474 (d := 2) (Nat.le_refl _) hr7) rfl rfl (Or.inl rfl) rfl rfl rfl rfl (Nat.le_trans (Nat.le_of_ble_eq_true rfl) hd) (Nat.le_of_ble_eq_true rfl) (Nat.le_of_ble_eq_true rfl) (Nat.le_of_ble_eq_true rfl) (fun x hx => absurd hx List.not_mem_nil) (q_nmL0 _) (q_nmS0 _) rfl (pos' := 25) (st' := []) (lI' := [(480, r7)]) (lE' := []) rfl rfl rfl rfl ?_
      refine q_blk 1 [] (c' := q_kc (t, r, m, z, N, ext, rx, L) I E 26 [some (.ref 473), some (.int x1), some (.int x2), some (.int x3), some (.int r1)] [.int (1 : Int32)] [(480, r7)] []) ok_X2_tieRope rfl q_cn ?_
      cases hf
      exact q_kri ok_X2_tieRope rfl rfl rfl (Nat.le_of_ble_eq_true rfl) (Nat.le_of_ble_eq_true rfl) ⟨rfl, q_hpe (q_fin [480] rfl) (q_fin [] rfl)⟩
    · have hf := q_in h5 hf
      refine q_blk 1 [] (c' := q_kc (t, r, m, z, N, ext, rx, L) I E 16 [some (.ref 473), some (.int x1), some (.int x2), some (.int x3), some (.int r1)] [.int (0 : Int32)] [] []) ok_X2_tieRope rfl q_cn ?_
      cases hf
      exact q_kri ok_X2_tieRope rfl rfl rfl (Nat.le_of_ble_eq_true rfl) (Nat.le_of_ble_eq_true rfl) ⟨rfl, q_hpe (q_fin [480] rfl) (q_fin [] rfl)⟩
set_option maxHeartbeats 4000000 in
theorem ct_X2_untieRope_473 {g : q_G} {t : Nat} {r : Nat} {m : Nat} {z : Nat} {N : Nat} {ext : Nat → q_Sh} {rx : Nat → Nat → Option Nat} {L : Nat → Nat → Int64} {d : Nat} (hd : 3 ≤ d)  {I : Nat → Nat → Int32} {E : Nat → Nat → Option Nat} {x1 : Int32} {x2 : Int32} {r0 : Bool × (Nat → Int32)} (hf : f_X2_untieRope (I 479) (I 480) (I 486) x1 x2 = some r0) : q_Ct g m_X2_untieRope d 0 0 [] [.ref 473, .int x1, .int x2] (q_hp (t, r, m, z, N, ext, rx, L) I E) (fun o h' => o = .inl (some (.int (q_bz r0.1))) ∧ h' = q_hp (t, r, m, z, N, ext, rx, L) (q_ws I [(480, r0.2)]) (q_ws E [])) := by
  rw [f_X2_untieRope] at hf
  refine q_Ct_of ok_X2_untieRope (Nat.le_of_ble_eq_true rfl) ?_ _ rfl rfl
  change q_J g m_X2_untieRope d 0 0 _ [] _ 0 0 (q_kc (t, r, m, z, N, ext, rx, L) I E 0 [some (.ref 473), some (.int x1), some (.int x2), none] [] [] [])
  refine q_blk 2 [] (c' := q_kc (t, r, m, z, N, ext, rx, L) I E 2 [some (.ref 473), some (.int x1), some (.int x2), none] [.int x1, .ref 473] [] []) ok_X2_untieRope rfl q_cn ?_
  obtain ⟨r1, hr1, hf⟩ := q_bd hf
  refine q_kV (M2 := m_X2_held) (As := [.int x1]) (b := 473) (v2 := some (.int r1)) ok_X2_untieRope ok_X2_held cv_X2_held (ct_X2_held_473 (d := 1) (Nat.le_refl _) hr1) rfl rfl (Or.inl rfl) rfl rfl rfl rfl (Nat.le_trans (Nat.le_of_ble_eq_true rfl) hd) (Nat.le_of_ble_eq_true rfl) (Nat.le_of_ble_eq_true rfl) (Nat.le_of_ble_eq_true rfl) (fun x hx => absurd hx List.not_mem_nil) (q_nmL0 _) (q_nmS0 _) rfl (pos' := 3) (st' := [.int r1]) (lI' := []) (lE' := []) rfl rfl rfl rfl ?_
  refine q_blk 5 [] (c' := q_kc (t, r, m, z, N, ext, rx, L) I E 8 [some (.ref 473), some (.int x1), some (.int x2), some (.int r1)] [.int x2, .int r1, .ref 474] [] []) ok_X2_untieRope rfl q_cn ?_
  obtain ⟨r2, hr2, hf⟩ := q_bd hf
  refine q_kV (M2 := m_X1_hasRope) (As := [.int r1, .int x2]) (b := 474) (v2 := some (.int (q_bz r2))) ok_X2_untieRope ok_X1_hasRope cv_X1_hasRope (ct_X1_hasRope_474 (d := 1) (Nat.le_refl _) hr2) rfl rfl (Or.inl rfl) rfl rfl rfl rfl (Nat.le_trans (Nat.le_of_ble_eq_true rfl) hd) (Nat.le_of_ble_eq_true rfl) (Nat.le_of_ble_eq_true rfl) (Nat.le_of_ble_eq_true rfl) (fun x hx => absurd hx List.not_mem_nil) (q_nmL0 _) (q_nmS0 _) rfl (pos' := 9) (st' := [.int (q_bz r2)]) (lI' := []) (lE' := []) rfl rfl rfl rfl ?_
  refine q_blf 0 [] (a := q_kc (t, r, m, z, N, ext, rx, L) I E 12 [some (.ref 473), some (.int x1), some (.int x2), some (.int r1)] [] [] []) (b := q_kc (t, r, m, z, N, ext, rx, L) I E 10 [some (.ref 473), some (.int x1), some (.int x2), some (.int r1)] [] [] []) (P := ¬ (q_bz r2) = 0) ok_X2_untieRope rfl q_cn (fun h3 => ?_) (fun h3 => ?_)
  · have hf := q_ip h3 hf
    refine q_blk 5 [] (c' := q_kc (t, r, m, z, N, ext, rx, L) I E 17 [some (.ref 473), some (.int x1), some (.int x2), some (.int r1)] [.int (-1 : Int32), .int x2, .int r1, .ref 474] [] []) ok_X2_untieRope rfl q_cn ?_
    obtain ⟨r4, hr4, hf⟩ := q_bd hf
    refine q_kV (M2 := m_X1_setLead) (As := [.int r1, .int x2, .int (-1 : Int32)]) (b := 474) (v2 := none) ok_X2_untieRope ok_X1_setLead cv_X1_setLead (ct_X1_setLead_474 (d := 2) (Nat.le_refl _) hr4) rfl rfl (Or.inl rfl) rfl rfl rfl rfl (Nat.le_trans (Nat.le_of_ble_eq_true rfl) hd) (Nat.le_of_ble_eq_true rfl) (Nat.le_of_ble_eq_true rfl) (Nat.le_of_ble_eq_true rfl) (fun x hx => absurd hx List.not_mem_nil) (q_nmL0 _) (q_nmS0 _) rfl (pos' := 18) (st' := []) (lI' := [(480, r4)]) (lE' := []) rfl rfl rfl rfl ?_
    refine q_blk 1 [] (c' := q_kc (t, r, m, z, N, ext, rx, L) I E 19 [some (.ref 473), some (.int x1), some (.int x2), some (.int r1)] [.int (1 : Int32)] [(480, r4)] []) ok_X2_untieRope rfl q_cn ?_
    cases hf
    exact q_kri ok_X2_untieRope rfl rfl rfl (Nat.le_of_ble_eq_true rfl) (Nat.le_of_ble_eq_true rfl) ⟨rfl, q_hpe (q_fin [480] rfl) (q_fin [] rfl)⟩
  · have hf := q_in h3 hf
    refine q_blk 1 [] (c' := q_kc (t, r, m, z, N, ext, rx, L) I E 11 [some (.ref 473), some (.int x1), some (.int x2), some (.int r1)] [.int (0 : Int32)] [] []) ok_X2_untieRope rfl q_cn ?_
    cases hf
    exact q_kri ok_X2_untieRope rfl rfl rfl (Nat.le_of_ble_eq_true rfl) (Nat.le_of_ble_eq_true rfl) ⟨rfl, q_hpe (q_fin [480] rfl) (q_fin [] rfl)⟩
set_option maxHeartbeats 4000000 in
theorem ct_X2_followRope_473 {g : q_G} {t : Nat} {r : Nat} {m : Nat} {z : Nat} {N : Nat} {ext : Nat → q_Sh} {rx : Nat → Nat → Option Nat} {L : Nat → Nat → Int64} {d : Nat} (hd : 3 ≤ d)  {I : Nat → Nat → Int32} {E : Nat → Nat → Option Nat} {x1 : Int32} {x2 : Int32} {x3 : Int32} {r0 : Bool × (Nat → Int32)} (hf : f_X2_followRope (I 479) (I 480) (I 486) x1 x2 x3 = some r0) : q_Ct g m_X2_followRope d 0 0 [] [.ref 473, .int x1, .int x2, .int x3] (q_hp (t, r, m, z, N, ext, rx, L) I E) (fun o h' => o = .inl (some (.int (q_bz r0.1))) ∧ h' = q_hp (t, r, m, z, N, ext, rx, L) (q_ws I [(486, r0.2)]) (q_ws E [])) := by
  rw [f_X2_followRope] at hf
  refine q_Ct_of ok_X2_followRope (Nat.le_of_ble_eq_true rfl) ?_ _ rfl rfl
  change q_J g m_X2_followRope d 0 0 _ [] _ 0 0 (q_kc (t, r, m, z, N, ext, rx, L) I E 0 [some (.ref 473), some (.int x1), some (.int x2), some (.int x3), none] [] [] [])
  refine q_blk 4 [] (c' := q_kc (t, r, m, z, N, ext, rx, L) I E 4 [some (.ref 473), some (.int x1), some (.int x2), some (.int x3), none] [.int x2, .ref 473, .ref 474] [] []) ok_X2_followRope rfl q_cn ?_
  obtain ⟨r1, hr1, hf⟩ := q_bd hf
  refine q_kV (M2 := m_X2_held) (As := [.int x2]) (b := 473) (v2 := some (.int r1)) ok_X2_followRope ok_X2_held cv_X2_held (ct_X2_held_473 (d := 1) (Nat.le_refl _) hr1) rfl rfl (Or.inl rfl) rfl rfl rfl rfl (Nat.le_trans (Nat.le_of_ble_eq_true rfl) hd) (Nat.le_of_ble_eq_true rfl) (Nat.le_of_ble_eq_true rfl) (Nat.le_of_ble_eq_true rfl) (fun x hx => absurd hx List.not_mem_nil) (q_nmL0 _) (q_nmS0 _) rfl (pos' := 5) (st' := [.int r1, .ref 474]) (lI' := []) (lE' := []) rfl rfl rfl rfl ?_
  refine q_blk 1 [] (c' := q_kc (t, r, m, z, N, ext, rx, L) I E 6 [some (.ref 473), some (.int x1), some (.int x2), some (.int x3), none] [.int x3, .int r1, .ref 474] [] []) ok_X2_followRope rfl q_cn ?_
  obtain ⟨r2, hr2, hf⟩ := q_bd hf
  refine q_kV (M2 := m_X1_lead) (As := [.int r1, .int x3]) (b := 474) (v2 := some (.int r2)) ok_X2_followRope ok_X1_lead cv_X1_lead (ct_X1_lead_474 (d := 2) (Nat.le_refl _) hr2) rfl rfl (Or.inl rfl) rfl rfl rfl rfl (Nat.le_trans (Nat.le_of_ble_eq_true rfl) hd) (Nat.le_of_ble_eq_true rfl) (Nat.le_of_ble_eq_true rfl) (Nat.le_of_ble_eq_true rfl) (fun x hx => absurd hx List.not_mem_nil) (q_nmL0 _) (q_nmS0 _) rfl (pos' := 7) (st' := [.int r2]) (lI' := []) (lE' := []) rfl rfl rfl rfl ?_
  refine q_blf 3 [] (a := q_kc (t, r, m, z, N, ext, rx, L) I E 13 [some (.ref 473), some (.int x1), some (.int x2), some (.int x3), some (.int r2)] [] [] []) (b := q_kc (t, r, m, z, N, ext, rx, L) I E 11 [some (.ref 473), some (.int x1), some (.int x2), some (.int x3), some (.int r2)] [] [] []) (P := ¬ r2 = (-1 : Int32)) ok_X2_followRope rfl q_cn (fun h3 => ?_) (fun h3 => ?_)
  · have hf := q_ip h3 hf
    refine q_blk 3 [] (c' := q_kc (t, r, m, z, N, ext, rx, L) I E 16 [some (.ref 473), some (.int x1), some (.int x2), some (.int x3), some (.int r2)] [.int r2, .int x1, .ref 473] [] []) ok_X2_followRope rfl q_cn ?_
    obtain ⟨r4, hr4, hf⟩ := q_bd hf
    refine q_kV (M2 := m_X2_hold) (As := [.int x1, .int r2]) (b := 473) (v2 := none) ok_X2_followRope ok_X2_hold cv_X2_hold (ct_X2_hold_473 (d := 1) (Nat.le_refl _) hr4) rfl rfl (Or.inl rfl) rfl rfl rfl rfl (Nat.le_trans (Nat.le_of_ble_eq_true rfl) hd) (Nat.le_of_ble_eq_true rfl) (Nat.le_of_ble_eq_true rfl) (Nat.le_of_ble_eq_true rfl) (fun x hx => absurd hx List.not_mem_nil) (q_nmL0 _) (q_nmS0 _) rfl (pos' := 17) (st' := []) (lI' := [(486, r4)]) (lE' := []) rfl rfl rfl rfl ?_
    refine q_blk 1 [] (c' := q_kc (t, r, m, z, N, ext, rx, L) I E 18 [some (.ref 473), some (.int x1), some (.int x2), some (.int x3), some (.int r2)] [.int (1 : Int32)] [(486, r4)] []) ok_X2_followRope rfl q_cn ?_
    cases hf
    exact q_kri ok_X2_followRope rfl rfl rfl (Nat.le_of_ble_eq_true rfl) (Nat.le_of_ble_eq_true rfl) ⟨rfl, q_hpe (q_fin [486] rfl) (q_fin [] rfl)⟩
  · have hf := q_in h3 hf
    refine q_blk 1 [] (c' := q_kc (t, r, m, z, N, ext, rx, L) I E 12 [some (.ref 473), some (.int x1), some (.int x2), some (.int x3), some (.int r2)] [.int (0 : Int32)] [] []) ok_X2_followRope rfl q_cn ?_
    cases hf
    exact q_kri ok_X2_followRope rfl rfl rfl (Nat.le_of_ble_eq_true rfl) (Nat.le_of_ble_eq_true rfl) ⟨rfl, q_hpe (q_fin [486] rfl) (q_fin [] rfl)⟩
set_option maxHeartbeats 4000000 in
theorem ct_X2_dropBale_473 {g : q_G} {t : Nat} {r : Nat} {m : Nat} {z : Nat} {N : Nat} {ext : Nat → q_Sh} {rx : Nat → Nat → Option Nat} {L : Nat → Nat → Int64} {d : Nat} (hd : 2 ≤ d)  {I : Nat → Nat → Int32} {E : Nat → Nat → Option Nat} {x1 : Int32} {r0 : Bool × (Nat → Int32)} (hf : f_X2_dropBale (I 486) x1 = some r0) : q_Ct g m_X2_dropBale d 0 0 [] [.ref 473, .int x1] (q_hp (t, r, m, z, N, ext, rx, L) I E) (fun o h' => o = .inl (some (.int (q_bz r0.1))) ∧ h' = q_hp (t, r, m, z, N, ext, rx, L) (q_ws I [(486, r0.2)]) (q_ws E [])) := by
  rw [f_X2_dropBale] at hf
  refine q_Ct_of ok_X2_dropBale (Nat.le_of_ble_eq_true rfl) ?_ _ rfl rfl
  change q_J g m_X2_dropBale d 0 0 _ [] _ 0 0 (q_kc (t, r, m, z, N, ext, rx, L) I E 0 [some (.ref 473), some (.int x1)] [] [] [])
  refine q_blk 2 [] (c' := q_kc (t, r, m, z, N, ext, rx, L) I E 2 [some (.ref 473), some (.int x1)] [.int x1, .ref 473] [] []) ok_X2_dropBale rfl q_cn ?_
  obtain ⟨r1, hr1, hf⟩ := q_bd hf
  refine q_kV (M2 := m_X2_held) (As := [.int x1]) (b := 473) (v2 := some (.int r1)) ok_X2_dropBale ok_X2_held cv_X2_held (ct_X2_held_473 (d := 1) (Nat.le_refl _) hr1) rfl rfl (Or.inl rfl) rfl rfl rfl rfl (Nat.le_trans (Nat.le_of_ble_eq_true rfl) hd) (Nat.le_of_ble_eq_true rfl) (Nat.le_of_ble_eq_true rfl) (Nat.le_of_ble_eq_true rfl) (fun x hx => absurd hx List.not_mem_nil) (q_nmL0 _) (q_nmS0 _) rfl (pos' := 3) (st' := [.int r1]) (lI' := []) (lE' := []) rfl rfl rfl rfl ?_
  refine q_blf 1 [] (a := q_kc (t, r, m, z, N, ext, rx, L) I E 7 [some (.ref 473), some (.int x1)] [] [] []) (b := q_kc (t, r, m, z, N, ext, rx, L) I E 5 [some (.ref 473), some (.int x1)] [] [] []) (P := ¬ r1 = (-1 : Int32)) ok_X2_dropBale rfl q_cn (fun h2 => ?_) (fun h2 => ?_)
  · have hf := q_ip h2 hf
    refine q_blk 3 [] (c' := q_kc (t, r, m, z, N, ext, rx, L) I E 10 [some (.ref 473), some (.int x1)] [.int (-1 : Int32), .int x1, .ref 473] [] []) ok_X2_dropBale rfl q_cn ?_
    obtain ⟨r3, hr3, hf⟩ := q_bd hf
    refine q_kV (M2 := m_X2_hold) (As := [.int x1, .int (-1 : Int32)]) (b := 473) (v2 := none) ok_X2_dropBale ok_X2_hold cv_X2_hold (ct_X2_hold_473 (d := 1) (Nat.le_refl _) hr3) rfl rfl (Or.inl rfl) rfl rfl rfl rfl (Nat.le_trans (Nat.le_of_ble_eq_true rfl) hd) (Nat.le_of_ble_eq_true rfl) (Nat.le_of_ble_eq_true rfl) (Nat.le_of_ble_eq_true rfl) (fun x hx => absurd hx List.not_mem_nil) (q_nmL0 _) (q_nmS0 _) rfl (pos' := 11) (st' := []) (lI' := [(486, r3)]) (lE' := []) rfl rfl rfl rfl ?_
    refine q_blk 1 [] (c' := q_kc (t, r, m, z, N, ext, rx, L) I E 12 [some (.ref 473), some (.int x1)] [.int (1 : Int32)] [(486, r3)] []) ok_X2_dropBale rfl q_cn ?_
    cases hf
    exact q_kri ok_X2_dropBale rfl rfl rfl (Nat.le_of_ble_eq_true rfl) (Nat.le_of_ble_eq_true rfl) ⟨rfl, q_hpe (q_fin [486] rfl) (q_fin [] rfl)⟩
  · have hf := q_in h2 hf
    refine q_blk 1 [] (c' := q_kc (t, r, m, z, N, ext, rx, L) I E 6 [some (.ref 473), some (.int x1)] [.int (0 : Int32)] [] []) ok_X2_dropBale rfl q_cn ?_
    cases hf
    exact q_kri ok_X2_dropBale rfl rfl rfl (Nat.le_of_ble_eq_true rfl) (Nat.le_of_ble_eq_true rfl) ⟨rfl, q_hpe (q_fin [486] rfl) (q_fin [] rfl)⟩
set_option maxHeartbeats 4000000 in
theorem ct_X3_perform_489_473_T406 {g : q_G} {r : Nat} {m : Nat} {ext : Nat → q_Sh} {rx : Nat → Nat → Option Nat} {L : Nat → Nat → Int64} {d : Nat} (hd : 5 ≤ d)  {I : Nat → Nat → Int32} {E : Nat → Nat → Option Nat} {x2 : Nat} {r0 : Bool × (Nat → Int32) × (Nat → Int32) × (Nat → Int32) × (Nat → Int32) × (Nat → Int32) × (Nat → Int32) × (Nat → Int32) × (Nat → Int32) × (Nat → Int32) × (Nat → Int32) × (Nat → Int32) × (Nat → Int32) × (Nat → Int32) × (Nat → Int32) × (Nat → Int32) × (Nat → Int32) × (Nat → Int32)} (hf : f_X3_perform (I 402) (I 405) (I 473) (I 475) (I 476) (I 477) (I 478) (I 479) (I 480) (I 481) (I 482) (I 483) (I 484) (I 485) (I 486) (I 487) (I 488) (I 490) (I 491) (E 404) (fun j => I (406 + j)) (fun j => E (406 + j)) x2 = some r0) : q_Ct g m_X3_perform d 0 0 [487, 488] [.ref 489, .ref 473, .ref (406 + x2)] (q_hp (0, r, m, 499, 529, ext, rx, L) I E) (fun o h' => o = .inl (some (.int (q_bz r0.1))) ∧ h' = q_hp (0, r, m, 499, 529, ext, rx, L) (q_ws I [(473, r0.2.1), (475, r0.2.2.1), (476, r0.2.2.2.1), (477, r0.2.2.2.2.1), (478, r0.2.2.2.2.2.1), (479, r0.2.2.2.2.2.2.1), (480, r0.2.2.2.2.2.2.2.1), (481, r0.2.2.2.2.2.2.2.2.1), (482, r0.2.2.2.2.2.2.2.2.2.1), (483, r0.2.2.2.2.2.2.2.2.2.2.1), (484, r0.2.2.2.2.2.2.2.2.2.2.2.1), (485, r0.2.2.2.2.2.2.2.2.2.2.2.2.1), (486, r0.2.2.2.2.2.2.2.2.2.2.2.2.2.1), (487, r0.2.2.2.2.2.2.2.2.2.2.2.2.2.2.1), (488, r0.2.2.2.2.2.2.2.2.2.2.2.2.2.2.2.1), (490, r0.2.2.2.2.2.2.2.2.2.2.2.2.2.2.2.2.1), (491, r0.2.2.2.2.2.2.2.2.2.2.2.2.2.2.2.2.2)]) (q_ws E [])) := by
  rw [f_X3_perform] at hf
  refine q_Ct_of ok_X3_perform (Nat.le_of_ble_eq_true rfl) ?_ _ rfl rfl
  change q_J g m_X3_perform d 0 0 _ [487, 488] _ 0 0 (q_kc (0, r, m, 499, 529, ext, rx, L) I E 0 [some (.ref 489), some (.ref 473), some (.ref (406 + x2)), none] [] [] [])
  obtain ⟨ug2, hg2, hf⟩ := q_bd hf
  refine q_blk 2 [] (c' := q_kc (0, r, m, 499, 529, ext, rx, L) I E 2 [some (.ref 489), some (.ref 473), some (.ref (406 + x2)), none] [.ref (406 + x2), .ref 50] [] []) ok_X3_perform rfl q_cn ?_
  refine q_kgK (pos' := 3) (o := ((fun j => E (406 + j)) x2 0)) ok_X3_perform rfl (Or.inl rfl) (q_t20_lt hg2) rfl rfl (q_wsT0 (q_t20_lt hg2) rfl) rfl (fun hb2 => ?_) (fun b1 hb2 hl3 => ?_)
  · have hf := q_on0 hb2 hf
    cases hf
  · have hf := q_on1 hb2 hf
    refine q_kord (pos' := 4) ok_X3_perform rfl (Or.inl rfl) hl3 (Nat.le_trans (Nat.le_of_ble_eq_true rfl) hd) (Nat.le_of_ble_eq_true rfl) (Nat.le_of_ble_eq_true rfl) rfl ?_
    obtain ⟨j4, hj4, hf⟩ := q_bd hf
    refine q_blk 1 [j4] (c' := q_kc (0, r, m, 499, 529, ext, rx, L) I E 5 [some (.ref 489), some (.ref 473), some (.ref (406 + x2)), none] [.int (q_sw j4)] [] []) ok_X3_perform rfl (q_cc hj4 q_cn) ?_
    refine q_ksw [6, 27, 36, 43] ok_X3_perform rfl (dp := 52) rfl (fun ix t9 ht9 hx9 => ?_) (fun hx9 => ?_) (by decide) (by decide)
    · match ix, ht9 with
      | 0, ht9 =>
        have hx9 : (q_sw j4) = 32 := hx9
        cases ht9
        have hf := q_ip hx9 hf
        refine q_blk 4 [] (c' := q_kc (0, r, m, 499, 529, ext, rx, L) I E 10 [some (.ref 489), some (.ref 473), some (.ref (406 + x2)), none] [.ref (406 + x2), .ref 473, .ref 490] [] []) ok_X3_perform rfl q_cn ?_
        refine q_kgT (pos' := 11) (x := ((fun j => I (406 + j)) x2 4)) ok_X3_perform rfl (Or.inl rfl) (q_t20_lt hg2) rfl rfl (q_wsT0 (q_t20_lt hg2) rfl) rfl ?_
        refine q_blk 1 [] (c' := q_kc (0, r, m, 499, 529, ext, rx, L) I E 12 [some (.ref 489), some (.ref 473), some (.ref (406 + x2)), none] [.ref (406 + x2), .int ((fun j => I (406 + j)) x2 4), .ref 473, .ref 490] [] []) ok_X3_perform rfl q_cn ?_
        refine q_kgT (pos' := 13) (x := ((fun j => I (406 + j)) x2 5)) ok_X3_perform rfl (Or.inl rfl) (q_t20_lt hg2) rfl rfl (q_wsT0 (q_t20_lt hg2) rfl) rfl ?_
        obtain ⟨r5, hr5, hf⟩ := q_bd hf
        refine q_kV (M2 := m_X8_reckon) (As := [.ref 473, .int ((fun j => I (406 + j)) x2 4), .int ((fun j => I (406 + j)) x2 5)]) (b := 490) (v2 := some (.int r5.1)) ok_X3_perform ok_X8_reckon cv_X8_reckon (ct_X8_reckon_490_473 (d := 4) (Nat.le_refl _) hr5) rfl rfl (Or.inl rfl) rfl rfl rfl rfl (Nat.le_trans (Nat.le_of_ble_eq_true rfl) hd) (Nat.le_of_ble_eq_true rfl) (Nat.le_of_ble_eq_true rfl) (Nat.le_of_ble_eq_true rfl) (fun x hx => absurd hx List.not_mem_nil) (q_nmL0 _) (q_nmS0 _) rfl (pos' := 14) (st' := [.int r5.1]) (lI' := [(490, r5.2.1), (491, r5.2.2)]) (lE' := []) rfl rfl rfl rfl ?_
        refine q_blk 3 [] (c' := q_kc (0, r, m, 499, 529, ext, rx, L) I E 17 [some (.ref 489), some (.ref 473), some (.ref (406 + x2)), some (.int r5.1)] [.ref (406 + x2), .ref 473] [(490, r5.2.1), (491, r5.2.2)] []) ok_X3_perform rfl q_cn ?_
        refine q_kgT (pos' := 18) (x := ((fun j => I (406 + j)) x2 1)) ok_X3_perform rfl (Or.inl rfl) (q_t20_lt hg2) rfl rfl (q_wsT0 (q_t20_lt hg2) rfl) rfl ?_
        refine q_blk 2 [] (c' := q_kc (0, r, m, 499, 529, ext, rx, L) I E 20 [some (.ref 489), some (.ref 473), some (.ref (406 + x2)), some (.int r5.1)] [.int (1 : Int32), .int r5.1, .int ((fun j => I (406 + j)) x2 1), .ref 473] [(490, r5.2.1), (491, r5.2.2)] []) ok_X3_perform rfl q_cn ?_
        refine q_kmx (pos' := 21) ok_X3_perform rfl rfl (Nat.le_trans (Nat.le_of_ble_eq_true rfl) hd) (Nat.le_of_ble_eq_true rfl) (Nat.le_of_ble_eq_true rfl) (Nat.le_of_ble_eq_true rfl) rfl ?_
        refine q_blk 1 [] (c' := q_kc (0, r, m, 499, 529, ext, rx, L) I E 22 [some (.ref 489), some (.ref 473), some (.ref (406 + x2)), some (.int r5.1)] [.int (9 : Int32), .int (q_max r5.1 (1 : Int32)), .int ((fun j => I (406 + j)) x2 1), .ref 473] [(490, r5.2.1), (491, r5.2.2)] []) ok_X3_perform rfl q_cn ?_
        refine q_kmn (pos' := 23) ok_X3_perform rfl rfl (Nat.le_trans (Nat.le_of_ble_eq_true rfl) hd) (Nat.le_of_ble_eq_true rfl) (Nat.le_of_ble_eq_true rfl) (Nat.le_of_ble_eq_true rfl) rfl ?_
        refine q_blk 1 [] (c' := q_kc (0, r, m, 499, 529, ext, rx, L) I E 24 [some (.ref 489), some (.ref 473), some (.ref (406 + x2)), some (.int r5.1)] [.ref (406 + x2), .int (q_min (q_max r5.1 (1 : Int32)) (9 : Int32)), .int ((fun j => I (406 + j)) x2 1), .ref 473] [(490, r5.2.1), (491, r5.2.2)] []) ok_X3_perform rfl q_cn ?_
        refine q_kgT (pos' := 25) (x := ((fun j => I (406 + j)) x2 3)) ok_X3_perform rfl (Or.inl rfl) (q_t20_lt hg2) rfl rfl (q_wsT0 (q_t20_lt hg2) rfl) rfl ?_
        refine q_less (ls' := [none, none, none, none]) (q_sb1 (q_sb1 (q_sb1 (q_sb1 q_sb0)))) ?_
        obtain ⟨r6, hr6, hf⟩ := q_bd hf
        refine q_kV (M2 := m_X2_makeBale) (As := [.int ((fun j => I (406 + j)) x2 1), .int (q_min (q_max r5.1 (1 : Int32)) (9 : Int32)), .int ((fun j => I (406 + j)) x2 3)]) (b := 473) (v2 := some (.int (q_bz r6.1))) ok_X3_perform ok_X2_makeBale cv_X2_makeBale (ct_X2_makeBale_473 (d := 4) (Nat.le_refl _) hr6) rfl rfl (Or.inl rfl) rfl rfl rfl rfl (Nat.le_trans (Nat.le_of_ble_eq_true rfl) hd) (Nat.le_of_ble_eq_true rfl) (Nat.le_of_ble_eq_true rfl) (Nat.le_of_ble_eq_true rfl) (fun x hx => hx) rfl rfl rfl (pos' := 26) (st' := [.int (q_bz r6.1)]) (lI' := [(473, r6.2.1), (475, r6.2.2.1), (476, r6.2.2.2.1), (477, r6.2.2.2.2.1), (478, r6.2.2.2.2.2.1), (479, r6.2.2.2.2.2.2.1), (480, r6.2.2.2.2.2.2.2.1), (481, r6.2.2.2.2.2.2.2.2.1), (482, r6.2.2.2.2.2.2.2.2.2.1), (483, r6.2.2.2.2.2.2.2.2.2.2.1), (484, r6.2.2.2.2.2.2.2.2.2.2.2.1), (485, r6.2.2.2.2.2.2.2.2.2.2.2.2.1), (486, r6.2.2.2.2.2.2.2.2.2.2.2.2.2.1), (487, r6.2.2.2.2.2.2.2.2.2.2.2.2.2.2.1), (488, r6.2.2.2.2.2.2.2.2.2.2.2.2.2.2.2), (490, r5.2.1), (491, r5.2.2)]) (lE' := []) rfl rfl rfl rfl ?_
        cases hf
        exact q_kri ok_X3_perform rfl rfl (q_bz_nr _) (Nat.le_of_ble_eq_true rfl) (Nat.le_of_ble_eq_true rfl) ⟨rfl, q_hpe (q_fin [473, 475, 476, 477, 478, 479, 480, 481, 482, 483, 484, 485, 486, 487, 488, 490, 491] rfl) (q_fin [] rfl)⟩
      | 1, ht9 =>
        have hx9 : (q_sw j4) = 33 := hx9
        cases ht9
        have hf := q_in (fun hz9 => absurd (hx9.symm.trans hz9) (by decide)) hf
        have hf := q_ip hx9 hf
        refine q_blk 2 [] (c' := q_kc (0, r, m, 499, 529, ext, rx, L) I E 29 [some (.ref 489), some (.ref 473), some (.ref (406 + x2)), none] [.ref (406 + x2), .ref 473] [] []) ok_X3_perform rfl q_cn ?_
        refine q_kgT (pos' := 30) (x := ((fun j => I (406 + j)) x2 1)) ok_X3_perform rfl (Or.inl rfl) (q_t20_lt hg2) rfl rfl (q_wsT0 (q_t20_lt hg2) rfl) rfl ?_
        refine q_blk 1 [] (c' := q_kc (0, r, m, 499, 529, ext, rx, L) I E 31 [some (.ref 489), some (.ref 473), some (.ref (406 + x2)), none] [.ref (406 + x2), .int ((fun j => I (406 + j)) x2 1), .ref 473] [] []) ok_X3_perform rfl q_cn ?_
        refine q_kgT (pos' := 32) (x := ((fun j => I (406 + j)) x2 3)) ok_X3_perform rfl (Or.inl rfl) (q_t20_lt hg2) rfl rfl (q_wsT0 (q_t20_lt hg2) rfl) rfl ?_
        refine q_blk 1 [] (c' := q_kc (0, r, m, 499, 529, ext, rx, L) I E 33 [some (.ref 489), some (.ref 473), some (.ref (406 + x2)), none] [.ref (406 + x2), .int ((fun j => I (406 + j)) x2 3), .int ((fun j => I (406 + j)) x2 1), .ref 473] [] []) ok_X3_perform rfl q_cn ?_
        refine q_kgT (pos' := 34) (x := ((fun j => I (406 + j)) x2 2)) ok_X3_perform rfl (Or.inl rfl) (q_t20_lt hg2) rfl rfl (q_wsT0 (q_t20_lt hg2) rfl) rfl ?_
        obtain ⟨r7, hr7, hf⟩ := q_bd hf
        refine q_kV (M2 := m_X2_tieRope) (As := [.int ((fun j => I (406 + j)) x2 1), .int ((fun j => I (406 + j)) x2 3), .int ((fun j => I (406 + j)) x2 2)]) (b := 473) (v2 := some (.int (q_bz r7.1))) ok_X3_perform ok_X2_tieRope cv_X2_tieRope (ct_X2_tieRope_473 (d := 3) (Nat.le_refl _) hr7) rfl rfl (Or.inl rfl) rfl rfl rfl rfl (Nat.le_trans (Nat.le_of_ble_eq_true rfl) hd) (Nat.le_of_ble_eq_true rfl) (Nat.le_of_ble_eq_true rfl) (Nat.le_of_ble_eq_true rfl) (fun x hx => absurd hx List.not_mem_nil) (q_nmL0 _) (q_nmS0 _) rfl (pos' := 35) (st' := [.int (q_bz r7.1)]) (lI' := [(480, r7.2)]) (lE' := []) rfl rfl rfl rfl ?_
        cases hf
        exact q_kri ok_X3_perform rfl rfl (q_bz_nr _) (Nat.le_of_ble_eq_true rfl) (Nat.le_of_ble_eq_true rfl) ⟨rfl, q_hpe (q_fin [473, 475, 476, 477, 478, 479, 480, 481, 482, 483, 484, 485, 486, 487, 488, 490, 491] rfl) (q_fin [] rfl)⟩
      | 2, ht9 =>
        have hx9 : (q_sw j4) = 34 := hx9
        cases ht9
        have hf := q_in (fun hz9 => absurd (hx9.symm.trans hz9) (by decide)) hf
        have hf := q_in (fun hz9 => absurd (hx9.symm.trans hz9) (by decide)) hf
        have hf := q_ip hx9 hf
        refine q_blk 2 [] (c' := q_kc (0, r, m, 499, 529, ext, rx, L) I E 38 [some (.ref 489), some (.ref 473), some (.ref (406 + x2)), none] [.ref (406 + x2), .ref 473] [] []) ok_X3_perform rfl q_cn ?_
        refine q_kgT (pos' := 39) (x := ((fun j => I (406 + j)) x2 1)) ok_X3_perform rfl (Or.inl rfl) (q_t20_lt hg2) rfl rfl (q_wsT0 (q_t20_lt hg2) rfl) rfl ?_
        refine q_blk 1 [] (c' := q_kc (0, r, m, 499, 529, ext, rx, L) I E 40 [some (.ref 489), some (.ref 473), some (.ref (406 + x2)), none] [.ref (406 + x2), .int ((fun j => I (406 + j)) x2 1), .ref 473] [] []) ok_X3_perform rfl q_cn ?_
        refine q_kgT (pos' := 41) (x := ((fun j => I (406 + j)) x2 3)) ok_X3_perform rfl (Or.inl rfl) (q_t20_lt hg2) rfl rfl (q_wsT0 (q_t20_lt hg2) rfl) rfl ?_
        obtain ⟨r8, hr8, hf⟩ := q_bd hf
        refine q_kV (M2 := m_X2_untieRope) (As := [.int ((fun j => I (406 + j)) x2 1), .int ((fun j => I (406 + j)) x2 3)]) (b := 473) (v2 := some (.int (q_bz r8.1))) ok_X3_perform ok_X2_untieRope cv_X2_untieRope (ct_X2_untieRope_473 (d := 3) (Nat.le_refl _) hr8) rfl rfl (Or.inl rfl) rfl rfl rfl rfl (Nat.le_trans (Nat.le_of_ble_eq_true rfl) hd) (Nat.le_of_ble_eq_true rfl) (Nat.le_of_ble_eq_true rfl) (Nat.le_of_ble_eq_true rfl) (fun x hx => absurd hx List.not_mem_nil) (q_nmL0 _) (q_nmS0 _) rfl (pos' := 42) (st' := [.int (q_bz r8.1)]) (lI' := [(480, r8.2)]) (lE' := []) rfl rfl rfl rfl ?_
        cases hf
        exact q_kri ok_X3_perform rfl rfl (q_bz_nr _) (Nat.le_of_ble_eq_true rfl) (Nat.le_of_ble_eq_true rfl) ⟨rfl, q_hpe (q_fin [473, 475, 476, 477, 478, 479, 480, 481, 482, 483, 484, 485, 486, 487, 488, 490, 491] rfl) (q_fin [] rfl)⟩
      | 3, ht9 =>
        have hx9 : (q_sw j4) = 35 := hx9
        cases ht9
        have hf := q_in (fun hz9 => absurd (hx9.symm.trans hz9) (by decide)) hf
        have hf := q_in (fun hz9 => absurd (hx9.symm.trans hz9) (by decide)) hf
        have hf := q_in (fun hz9 => absurd (hx9.symm.trans hz9) (by decide)) hf
        have hf := q_ip hx9 hf
        refine q_blk 2 [] (c' := q_kc (0, r, m, 499, 529, ext, rx, L) I E 45 [some (.ref 489), some (.ref 473), some (.ref (406 + x2)), none] [.ref (406 + x2), .ref 473] [] []) ok_X3_perform rfl q_cn ?_
        refine q_kgT (pos' := 46) (x := ((fun j => I (406 + j)) x2 1)) ok_X3_perform rfl (Or.inl rfl) (q_t20_lt hg2) rfl rfl (q_wsT0 (q_t20_lt hg2) rfl) rfl ?_
        refine q_blk 1 [] (c' := q_kc (0, r, m, 499, 529, ext, rx, L) I E 47 [some (.ref 489), some (.ref 473), some (.ref (406 + x2)), none] [.ref (406 + x2), .int ((fun j => I (406 + j)) x2 1), .ref 473] [] []) ok_X3_perform rfl q_cn ?_
        refine q_kgT (pos' := 48) (x := ((fun j => I (406 + j)) x2 2)) ok_X3_perform rfl (Or.inl rfl) (q_t20_lt hg2) rfl rfl (q_wsT0 (q_t20_lt hg2) rfl) rfl ?_
        refine q_blk 1 [] (c' := q_kc (0, r, m, 499, 529, ext, rx, L) I E 49 [some (.ref 489), some (.ref 473), some (.ref (406 + x2)), none] [.ref (406 + x2), .int ((fun j => I (406 + j)) x2 2), .int ((fun j => I (406 + j)) x2 1), .ref 473] [] []) ok_X3_perform rfl q_cn ?_
        refine q_kgT (pos' := 50) (x := ((fun j => I (406 + j)) x2 3)) ok_X3_perform rfl (Or.inl rfl) (q_t20_lt hg2) rfl rfl (q_wsT0 (q_t20_lt hg2) rfl) rfl ?_
        obtain ⟨r9, hr9, hf⟩ := q_bd hf
        refine q_kV (M2 := m_X2_followRope) (As := [.int ((fun j => I (406 + j)) x2 1), .int ((fun j => I (406 + j)) x2 2), .int ((fun j => I (406 + j)) x2 3)]) (b := 473) (v2 := some (.int (q_bz r9.1))) ok_X3_perform ok_X2_followRope cv_X2_followRope (ct_X2_followRope_473 (d := 3) (Nat.le_refl _) hr9) rfl rfl (Or.inl rfl) rfl rfl rfl rfl (Nat.le_trans (Nat.le_of_ble_eq_true rfl) hd) (Nat.le_of_ble_eq_true rfl) (Nat.le_of_ble_eq_true rfl) (Nat.le_of_ble_eq_true rfl) (fun x hx => absurd hx List.not_mem_nil) (q_nmL0 _) (q_nmS0 _) rfl (pos' := 51) (st' := [.int (q_bz r9.1)]) (lI' := [(486, r9.2)]) (lE' := []) rfl rfl rfl rfl ?_
        cases hf
        exact q_kri ok_X3_perform rfl rfl (q_bz_nr _) (Nat.le_of_ble_eq_true rfl) (Nat.le_of_ble_eq_true rfl) ⟨rfl, q_hpe (q_fin [473, 475, 476, 477, 478, 479, 480, 481, 482, 483, 484, 485, 486, 487, 488, 490, 491] rfl) (q_fin [] rfl)⟩
      | z9 + 4, ht9 => cases ht9
    · have hf := q_in (hx9 0 (by decide)) hf
      have hf := q_in (hx9 1 (by decide)) hf
      have hf := q_in (hx9 2 (by decide)) hf
      have hf := q_in (hx9 3 (by decide)) hf
      refine q_blk 2 [] (c' := q_kc (0, r, m, 499, 529, ext, rx, L) I E 54 [some (.ref 489), some (.ref 473), some (.ref (406 + x2)), none] [.ref (406 + x2), .ref 473] [] []) ok_X3_perform rfl q_cn ?_
      refine q_kgT (pos' := 55) (x := ((fun j => I (406 + j)) x2 1)) ok_X3_perform rfl (Or.inl rfl) (q_t20_lt hg2) rfl rfl (q_wsT0 (q_t20_lt hg2) rfl) rfl ?_
      obtain ⟨r10, hr10, hf⟩ := q_bd hf
      refine q_kV (M2 := m_X2_dropBale) (As := [.int ((fun j => I (406 + j)) x2 1)]) (b := 473) (v2 := some (.int (q_bz r10.1))) ok_X3_perform ok_X2_dropBale cv_X2_dropBale (ct_X2_dropBale_473 (d := 2) (Nat.le_refl _) hr10) rfl rfl (Or.inl rfl) rfl rfl rfl rfl (Nat.le_trans (Nat.le_of_ble_eq_true rfl) hd) (Nat.le_of_ble_eq_true rfl) (Nat.le_of_ble_eq_true rfl) (Nat.le_of_ble_eq_true rfl) (fun x hx => absurd hx List.not_mem_nil) (q_nmL0 _) (q_nmS0 _) rfl (pos' := 56) (st' := [.int (q_bz r10.1)]) (lI' := [(486, r10.2)]) (lE' := []) rfl rfl rfl rfl ?_
      cases hf
      exact q_kri ok_X3_perform rfl rfl (q_bz_nr _) (Nat.le_of_ble_eq_true rfl) (Nat.le_of_ble_eq_true rfl) ⟨rfl, q_hpe (q_fin [473, 475, 476, 477, 478, 479, 480, 481, 482, 483, 484, 485, 486, 487, 488, 490, 491] rfl) (q_fin [] rfl)⟩
set_option maxHeartbeats 4000000 in
theorem ct_X3_passNext_489_473 {g : q_G} {r : Nat} {m : Nat} {ext : Nat → q_Sh} {rx : Nat → Nat → Option Nat} {L : Nat → Nat → Int64} {d : Nat} (hd : 6 ≤ d)  {I : Nat → Nat → Int32} {E : Nat → Nat → Option Nat} {r0 : Bool × (Nat → Int32) × (Nat → Int32) × (Nat → Int32) × (Nat → Int32) × (Nat → Int32) × (Nat → Int32) × (Nat → Int32) × (Nat → Int32) × (Nat → Int32) × (Nat → Int32) × (Nat → Int32) × (Nat → Int32) × (Nat → Int32) × (Nat → Int32) × (Nat → Int32) × (Nat → Int32) × (Nat → Int32)} (hf : f_X3_passNext (I 402) (I 405) (I 473) (I 475) (I 476) (I 477) (I 478) (I 479) (I 480) (I 481) (I 482) (I 483) (I 484) (I 485) (I 486) (I 487) (I 488) (I 490) (I 491) (E 404) (fun j => I (406 + j)) (fun j => E (406 + j)) = some r0) : q_Ct g m_X3_passNext d 0 0 [487, 488] [.ref 489, .ref 473] (q_hp (0, r, m, 499, 529, ext, rx, L) I E) (fun o h' => o = .inl (some (.int (q_bz r0.1))) ∧ h' = q_hp (0, r, m, 499, 529, ext, rx, L) (q_ws I [(473, r0.2.1), (475, r0.2.2.1), (476, r0.2.2.2.1), (477, r0.2.2.2.2.1), (478, r0.2.2.2.2.2.1), (479, r0.2.2.2.2.2.2.1), (480, r0.2.2.2.2.2.2.2.1), (481, r0.2.2.2.2.2.2.2.2.1), (482, r0.2.2.2.2.2.2.2.2.2.1), (483, r0.2.2.2.2.2.2.2.2.2.2.1), (484, r0.2.2.2.2.2.2.2.2.2.2.2.1), (485, r0.2.2.2.2.2.2.2.2.2.2.2.2.1), (486, r0.2.2.2.2.2.2.2.2.2.2.2.2.2.1), (487, r0.2.2.2.2.2.2.2.2.2.2.2.2.2.2.1), (488, r0.2.2.2.2.2.2.2.2.2.2.2.2.2.2.2.1), (490, r0.2.2.2.2.2.2.2.2.2.2.2.2.2.2.2.2.1), (491, r0.2.2.2.2.2.2.2.2.2.2.2.2.2.2.2.2.2)]) (q_ws E [])) := by
  rw [f_X3_passNext] at hf
  refine q_Ct_of ok_X3_passNext (Nat.le_of_ble_eq_true rfl) ?_ _ rfl rfl
  change q_J g m_X3_passNext d 0 0 _ [487, 488] _ 0 0 (q_kc (0, r, m, 499, 529, ext, rx, L) I E 0 [some (.ref 489), some (.ref 473), none, none, none, none] [] [] [])
  refine q_blf 5 [] (a := q_kc (0, r, m, 499, 529, ext, rx, L) I E 8 [some (.ref 489), some (.ref 473), some (.int ((I 402) 4)), none, none, none] [] [] []) (b := q_kc (0, r, m, 499, 529, ext, rx, L) I E 6 [some (.ref 489), some (.ref 473), some (.int ((I 402) 4)), none, none, none] [] [] []) (P := 0 < ((I 402) 4)) ok_X3_passNext rfl q_cn (fun h1 => ?_) (fun h1 => ?_)
  · have hf := q_ip h1 hf
    obtain ⟨u2, hu3, hf⟩ := q_bd hf
    refine q_blk 5 [] (c' := q_kc (0, r, m, 499, 529, ext, rx, L) I E 13 [some (.ref 489), some (.ref 473), some (.int ((I 402) 4)), none, none, none] [.int ((I 402) 4), .int ((I 473) 10), .ref 402] [] []) ok_X3_passNext rfl q_cn ?_
    refine q_krm (pos' := 14) ok_X3_passNext rfl (q_nz_ne hu3) rfl ?_
    obtain ⟨r4, hr4, hf⟩ := q_bd hf
    obtain ⟨u5, hu6, hf⟩ := q_bd hf
    refine q_kV (M2 := m_X6_stepWith) (As := [.int (((I 473) 10) - ((I 473) 10) / ((I 402) 4) * ((I 402) 4))]) (b := 402) (v2 := some (.ref (406 + r4))) ok_X3_passNext ok_X6_stepWith cv_X6_stepWith (ct_X6_stepWith_402 (d := 2) (Nat.le_refl _) hr4) rfl rfl (Or.inl rfl) rfl rfl rfl rfl (Nat.le_trans (Nat.le_of_ble_eq_true rfl) hd) (Nat.le_of_ble_eq_true rfl) (Nat.le_of_ble_eq_true rfl) (Nat.le_of_ble_eq_true rfl) (fun x hx => absurd hx List.not_mem_nil) (q_nmL0 _) (q_nmS0 _) rfl (pos' := 15) (st' := [.ref (406 + r4)]) (lI' := []) (lE' := []) rfl rfl rfl rfl ?_
    refine q_blk 2 [] (c' := q_kc (0, r, m, 499, 529, ext, rx, L) I E 17 [some (.ref 489), some (.ref 473), some (.int ((I 402) 4)), some (.ref (406 + r4)), none, none] [.ref (406 + r4)] [] []) ok_X3_passNext rfl q_cn ?_
    obtain ⟨r7, hr7, hf⟩ := q_bd hf
    refine q_kV (M2 := m_X10_hasTest) (As := []) (b := 406 + r4) (v2 := some (.int (q_bz r7))) ok_X3_passNext ok_X10_hasTest cv_X10_hasTest (ct_X10_hasTest_T406 (d := 1) (Nat.le_refl _) hr7) rfl rfl (Or.inl rfl) (q_stb (Or.inl rfl)) (q_sts (Or.inl rfl) (q_t20_lt hu6)) rfl rfl (Nat.le_trans (Nat.le_of_ble_eq_true rfl) hd) (Nat.le_of_ble_eq_true rfl) (Nat.le_of_ble_eq_true rfl) (Nat.le_of_ble_eq_true rfl) (fun x hx => absurd hx List.not_mem_nil) (q_nmL0 _) (q_nmS0 _) rfl (pos' := 18) (st' := [.int (q_bz r7)]) (lI' := []) (lE' := []) rfl rfl rfl rfl ?_
    refine q_blf 0 [] (a := q_kc (0, r, m, 499, 529, ext, rx, L) I E 29 [some (.ref 489), some (.ref 473), some (.int ((I 402) 4)), some (.ref (406 + r4)), none, none] [] [] []) (b := q_kc (0, r, m, 499, 529, ext, rx, L) I E 19 [some (.ref 489), some (.ref 473), some (.int ((I 402) 4)), some (.ref (406 + r4)), none, none] [] [] []) (P := (q_bz r7) = 0) ok_X3_passNext rfl q_cn (fun h8 => ?_) (fun h8 => ?_)
    · have hf := q_ip h8 hf
      refine q_blf 4 [] (a := q_kc (0, r, m, 499, 529, ext, rx, L) I E 42 [some (.ref 489), some (.ref 473), some (.int ((I 402) 4)), some (.ref (406 + r4)), some (.int (1 : Int32)), none] [] [] []) (b := q_kc (0, r, m, 499, 529, ext, rx, L) I E 35 [some (.ref 489), some (.ref 473), some (.int ((I 402) 4)), some (.ref (406 + r4)), some (.int (1 : Int32)), none] [] [] []) (P := (1 : Int32) = 0) ok_X3_passNext rfl q_cn (fun h9 => ?_) (fun h9 => ?_)
      · have hf := q_ip h9 hf
        refine q_blf 3 [] (a := q_kc (0, r, m, 499, 529, ext, rx, L) I E 54 [some (.ref 489), some (.ref 473), some (.int ((I 402) 4)), some (.ref (406 + r4)), some (.int (1 : Int32)), some (.int (0 : Int32))] [] [] []) (b := q_kc (0, r, m, 499, 529, ext, rx, L) I E 46 [some (.ref 489), some (.ref 473), some (.int ((I 402) 4)), some (.ref (406 + r4)), some (.int (1 : Int32)), some (.int (0 : Int32))] [] [] []) (P := (1 : Int32) = 0) ok_X3_passNext rfl q_cn (fun h10 => ?_) (fun h10 => ?_)
        · have hf := q_ip h10 hf
          refine q_blk 7 [] (c' := q_kc (0, r, m, 499, 529, ext, rx, L) I E 61 [some (.ref 489), some (.ref 473), some (.int ((I 402) 4)), some (.ref (406 + r4)), some (.int (1 : Int32)), some (.int (0 : Int32))] [.int (0 : Int32)] [(473, (q_up (I 473) 10 (((I 473) 10) + (1 : Int32))))] []) ok_X3_passNext rfl q_cn ?_
          cases hf
          exact q_kri ok_X3_passNext rfl rfl rfl (Nat.le_of_ble_eq_true rfl) (Nat.le_of_ble_eq_true rfl) ⟨rfl, q_hpe (q_fin [473, 475, 476, 477, 478, 479, 480, 481, 482, 483, 484, 485, 486, 487, 488, 490, 491] rfl) (q_fin [] rfl)⟩
        · have hf := q_in h10 hf
          refine q_blf 1 [] (a := q_kc (0, r, m, 499, 529, ext, rx, L) I E 54 [some (.ref 489), some (.ref 473), some (.int ((I 402) 4)), some (.ref (406 + r4)), some (.int (1 : Int32)), some (.int (0 : Int32))] [] [] []) (b := q_kc (0, r, m, 499, 529, ext, rx, L) I E 48 [some (.ref 489), some (.ref 473), some (.int ((I 402) 4)), some (.ref (406 + r4)), some (.int (1 : Int32)), some (.int (0 : Int32))] [] [] []) (P := ¬ (0 : Int32) = 0) ok_X3_passNext rfl q_cn (fun h11 => ?_) (fun h11 => ?_)
          · have hf := q_ip h11 hf
            refine q_blk 7 [] (c' := q_kc (0, r, m, 499, 529, ext, rx, L) I E 61 [some (.ref 489), some (.ref 473), some (.int ((I 402) 4)), some (.ref (406 + r4)), some (.int (1 : Int32)), some (.int (0 : Int32))] [.int (0 : Int32)] [(473, (q_up (I 473) 10 (((I 473) 10) + (1 : Int32))))] []) ok_X3_passNext rfl q_cn ?_
            cases hf
            exact q_kri ok_X3_passNext rfl rfl rfl (Nat.le_of_ble_eq_true rfl) (Nat.le_of_ble_eq_true rfl) ⟨rfl, q_hpe (q_fin [473, 475, 476, 477, 478, 479, 480, 481, 482, 483, 484, 485, 486, 487, 488, 490, 491] rfl) (q_fin [] rfl)⟩
          · have hf := q_in h11 hf
            refine q_blk 13 [] (c' := q_kc (0, r, m, 499, 529, ext, rx, L) I E 61 [some (.ref 489), some (.ref 473), some (.int ((I 402) 4)), some (.ref (406 + r4)), some (.int (1 : Int32)), some (.int (0 : Int32))] [.int (0 : Int32)] [(473, (q_up (q_up (I 473) 11 (((I 473) 11) + (1 : Int32))) 10 (((q_up (I 473) 11 (((I 473) 11) + (1 : Int32))) 10) + (1 : Int32))))] []) ok_X3_passNext rfl q_cn ?_
            cases hf
            exact q_kri ok_X3_passNext rfl rfl rfl (Nat.le_of_ble_eq_true rfl) (Nat.le_of_ble_eq_true rfl) ⟨rfl, q_hpe (q_fin [473, 475, 476, 477, 478, 479, 480, 481, 482, 483, 484, 485, 486, 487, 488, 490, 491] rfl) (q_fin [] rfl)⟩
      · have hf := q_in h9 hf
        refine q_blk 3 [] (c' := q_kc (0, r, m, 499, 529, ext, rx, L) I E 38 [some (.ref 489), some (.ref 473), some (.int ((I 402) 4)), some (.ref (406 + r4)), some (.int (1 : Int32)), none] [.ref (406 + r4), .ref 473, .ref 489] [] []) ok_X3_passNext rfl q_cn ?_
        refine q_less (ls' := [none, some (.ref 473), none, none, some (.int (1 : Int32)), none]) (q_sb1 (q_sb2 (q_sb1 (q_sb1 (q_sb2 (q_sb1 q_sb0)))))) ?_
        obtain ⟨r12, hr12, hf⟩ := q_bd hf
        refine q_kV (M2 := m_X3_perform) (As := [.ref 473, .ref (406 + r4)]) (b := 489) (v2 := some (.int (q_bz r12.1))) ok_X3_passNext ok_X3_perform cv_X3_perform (ct_X3_perform_489_473_T406 (d := 5) (Nat.le_refl _) hr12) rfl rfl (Or.inl rfl) rfl rfl rfl rfl (Nat.le_trans (Nat.le_of_ble_eq_true rfl) hd) (Nat.le_of_ble_eq_true rfl) (Nat.le_of_ble_eq_true rfl) (Nat.le_of_ble_eq_true rfl) (fun x hx => hx) rfl rfl rfl (pos' := 39) (st' := [.int (q_bz r12.1)]) (lI' := [(473, r12.2.1), (475, r12.2.2.1), (476, r12.2.2.2.1), (477, r12.2.2.2.2.1), (478, r12.2.2.2.2.2.1), (479, r12.2.2.2.2.2.2.1), (480, r12.2.2.2.2.2.2.2.1), (481, r12.2.2.2.2.2.2.2.2.1), (482, r12.2.2.2.2.2.2.2.2.2.1), (483, r12.2.2.2.2.2.2.2.2.2.2.1), (484, r12.2.2.2.2.2.2.2.2.2.2.2.1), (485, r12.2.2.2.2.2.2.2.2.2.2.2.2.1), (486, r12.2.2.2.2.2.2.2.2.2.2.2.2.2.1), (487, r12.2.2.2.2.2.2.2.2.2.2.2.2.2.2.1), (488, r12.2.2.2.2.2.2.2.2.2.2.2.2.2.2.2.1), (490, r12.2.2.2.2.2.2.2.2.2.2.2.2.2.2.2.2.1), (491, r12.2.2.2.2.2.2.2.2.2.2.2.2.2.2.2.2.2)]) (lE' := []) rfl rfl rfl rfl ?_
        refine q_blf 0 [] (a := q_kc (0, r, m, 499, 529, ext, rx, L) I E 42 [none, some (.ref 473), none, none, some (.int (1 : Int32)), none] [] [(473, r12.2.1), (475, r12.2.2.1), (476, r12.2.2.2.1), (477, r12.2.2.2.2.1), (478, r12.2.2.2.2.2.1), (479, r12.2.2.2.2.2.2.1), (480, r12.2.2.2.2.2.2.2.1), (481, r12.2.2.2.2.2.2.2.2.1), (482, r12.2.2.2.2.2.2.2.2.2.1), (483, r12.2.2.2.2.2.2.2.2.2.2.1), (484, r12.2.2.2.2.2.2.2.2.2.2.2.1), (485, r12.2.2.2.2.2.2.2.2.2.2.2.2.1), (486, r12.2.2.2.2.2.2.2.2.2.2.2.2.2.1), (487, r12.2.2.2.2.2.2.2.2.2.2.2.2.2.2.1), (488, r12.2.2.2.2.2.2.2.2.2.2.2.2.2.2.2.1), (490, r12.2.2.2.2.2.2.2.2.2.2.2.2.2.2.2.2.1), (491, r12.2.2.2.2.2.2.2.2.2.2.2.2.2.2.2.2.2)] []) (b := q_kc (0, r, m, 499, 529, ext, rx, L) I E 40 [none, some (.ref 473), none, none, some (.int (1 : Int32)), none] [] [(473, r12.2.1), (475, r12.2.2.1), (476, r12.2.2.2.1), (477, r12.2.2.2.2.1), (478, r12.2.2.2.2.2.1), (479, r12.2.2.2.2.2.2.1), (480, r12.2.2.2.2.2.2.2.1), (481, r12.2.2.2.2.2.2.2.2.1), (482, r12.2.2.2.2.2.2.2.2.2.1), (483, r12.2.2.2.2.2.2.2.2.2.2.1), (484, r12.2.2.2.2.2.2.2.2.2.2.2.1), (485, r12.2.2.2.2.2.2.2.2.2.2.2.2.1), (486, r12.2.2.2.2.2.2.2.2.2.2.2.2.2.1), (487, r12.2.2.2.2.2.2.2.2.2.2.2.2.2.2.1), (488, r12.2.2.2.2.2.2.2.2.2.2.2.2.2.2.2.1), (490, r12.2.2.2.2.2.2.2.2.2.2.2.2.2.2.2.2.1), (491, r12.2.2.2.2.2.2.2.2.2.2.2.2.2.2.2.2.2)] []) (P := (q_bz r12.1) = 0) ok_X3_passNext rfl q_cn (fun h13 => ?_) (fun h13 => ?_)
        · have hf := q_ip h13 hf
          refine q_blf 3 [] (a := q_kc (0, r, m, 499, 529, ext, rx, L) I E 54 [none, some (.ref 473), none, none, some (.int (1 : Int32)), some (.int (0 : Int32))] [] [(473, r12.2.1), (475, r12.2.2.1), (476, r12.2.2.2.1), (477, r12.2.2.2.2.1), (478, r12.2.2.2.2.2.1), (479, r12.2.2.2.2.2.2.1), (480, r12.2.2.2.2.2.2.2.1), (481, r12.2.2.2.2.2.2.2.2.1), (482, r12.2.2.2.2.2.2.2.2.2.1), (483, r12.2.2.2.2.2.2.2.2.2.2.1), (484, r12.2.2.2.2.2.2.2.2.2.2.2.1), (485, r12.2.2.2.2.2.2.2.2.2.2.2.2.1), (486, r12.2.2.2.2.2.2.2.2.2.2.2.2.2.1), (487, r12.2.2.2.2.2.2.2.2.2.2.2.2.2.2.1), (488, r12.2.2.2.2.2.2.2.2.2.2.2.2.2.2.2.1), (490, r12.2.2.2.2.2.2.2.2.2.2.2.2.2.2.2.2.1), (491, r12.2.2.2.2.2.2.2.2.2.2.2.2.2.2.2.2.2)] []) (b := q_kc (0, r, m, 499, 529, ext, rx, L) I E 46 [none, some (.ref 473), none, none, some (.int (1 : Int32)), some (.int (0 : Int32))] [] [(473, r12.2.1), (475, r12.2.2.1), (476, r12.2.2.2.1), (477, r12.2.2.2.2.1), (478, r12.2.2.2.2.2.1), (479, r12.2.2.2.2.2.2.1), (480, r12.2.2.2.2.2.2.2.1), (481, r12.2.2.2.2.2.2.2.2.1), (482, r12.2.2.2.2.2.2.2.2.2.1), (483, r12.2.2.2.2.2.2.2.2.2.2.1), (484, r12.2.2.2.2.2.2.2.2.2.2.2.1), (485, r12.2.2.2.2.2.2.2.2.2.2.2.2.1), (486, r12.2.2.2.2.2.2.2.2.2.2.2.2.2.1), (487, r12.2.2.2.2.2.2.2.2.2.2.2.2.2.2.1), (488, r12.2.2.2.2.2.2.2.2.2.2.2.2.2.2.2.1), (490, r12.2.2.2.2.2.2.2.2.2.2.2.2.2.2.2.2.1), (491, r12.2.2.2.2.2.2.2.2.2.2.2.2.2.2.2.2.2)] []) (P := (1 : Int32) = 0) ok_X3_passNext rfl q_cn (fun h14 => ?_) (fun h14 => ?_)
          · have hf := q_ip h14 hf
            refine q_blk 7 [] (c' := q_kc (0, r, m, 499, 529, ext, rx, L) I E 61 [none, some (.ref 473), none, none, some (.int (1 : Int32)), some (.int (0 : Int32))] [.int (0 : Int32)] [(473, (q_up r12.2.1 10 ((r12.2.1 10) + (1 : Int32)))), (475, r12.2.2.1), (476, r12.2.2.2.1), (477, r12.2.2.2.2.1), (478, r12.2.2.2.2.2.1), (479, r12.2.2.2.2.2.2.1), (480, r12.2.2.2.2.2.2.2.1), (481, r12.2.2.2.2.2.2.2.2.1), (482, r12.2.2.2.2.2.2.2.2.2.1), (483, r12.2.2.2.2.2.2.2.2.2.2.1), (484, r12.2.2.2.2.2.2.2.2.2.2.2.1), (485, r12.2.2.2.2.2.2.2.2.2.2.2.2.1), (486, r12.2.2.2.2.2.2.2.2.2.2.2.2.2.1), (487, r12.2.2.2.2.2.2.2.2.2.2.2.2.2.2.1), (488, r12.2.2.2.2.2.2.2.2.2.2.2.2.2.2.2.1), (490, r12.2.2.2.2.2.2.2.2.2.2.2.2.2.2.2.2.1), (491, r12.2.2.2.2.2.2.2.2.2.2.2.2.2.2.2.2.2)] []) ok_X3_passNext rfl q_cn ?_
            cases hf
            exact q_kri ok_X3_passNext rfl rfl rfl (Nat.le_of_ble_eq_true rfl) (Nat.le_of_ble_eq_true rfl) ⟨rfl, q_hpe (q_fin [473, 475, 476, 477, 478, 479, 480, 481, 482, 483, 484, 485, 486, 487, 488, 490, 491] rfl) (q_fin [] rfl)⟩
          · have hf := q_in h14 hf
            refine q_blf 1 [] (a := q_kc (0, r, m, 499, 529, ext, rx, L) I E 54 [none, some (.ref 473), none, none, some (.int (1 : Int32)), some (.int (0 : Int32))] [] [(473, r12.2.1), (475, r12.2.2.1), (476, r12.2.2.2.1), (477, r12.2.2.2.2.1), (478, r12.2.2.2.2.2.1), (479, r12.2.2.2.2.2.2.1), (480, r12.2.2.2.2.2.2.2.1), (481, r12.2.2.2.2.2.2.2.2.1), (482, r12.2.2.2.2.2.2.2.2.2.1), (483, r12.2.2.2.2.2.2.2.2.2.2.1), (484, r12.2.2.2.2.2.2.2.2.2.2.2.1), (485, r12.2.2.2.2.2.2.2.2.2.2.2.2.1), (486, r12.2.2.2.2.2.2.2.2.2.2.2.2.2.1), (487, r12.2.2.2.2.2.2.2.2.2.2.2.2.2.2.1), (488, r12.2.2.2.2.2.2.2.2.2.2.2.2.2.2.2.1), (490, r12.2.2.2.2.2.2.2.2.2.2.2.2.2.2.2.2.1), (491, r12.2.2.2.2.2.2.2.2.2.2.2.2.2.2.2.2.2)] []) (b := q_kc (0, r, m, 499, 529, ext, rx, L) I E 48 [none, some (.ref 473), none, none, some (.int (1 : Int32)), some (.int (0 : Int32))] [] [(473, r12.2.1), (475, r12.2.2.1), (476, r12.2.2.2.1), (477, r12.2.2.2.2.1), (478, r12.2.2.2.2.2.1), (479, r12.2.2.2.2.2.2.1), (480, r12.2.2.2.2.2.2.2.1), (481, r12.2.2.2.2.2.2.2.2.1), (482, r12.2.2.2.2.2.2.2.2.2.1), (483, r12.2.2.2.2.2.2.2.2.2.2.1), (484, r12.2.2.2.2.2.2.2.2.2.2.2.1), (485, r12.2.2.2.2.2.2.2.2.2.2.2.2.1), (486, r12.2.2.2.2.2.2.2.2.2.2.2.2.2.1), (487, r12.2.2.2.2.2.2.2.2.2.2.2.2.2.2.1), (488, r12.2.2.2.2.2.2.2.2.2.2.2.2.2.2.2.1), (490, r12.2.2.2.2.2.2.2.2.2.2.2.2.2.2.2.2.1), (491, r12.2.2.2.2.2.2.2.2.2.2.2.2.2.2.2.2.2)] []) (P := ¬ (0 : Int32) = 0) ok_X3_passNext rfl q_cn (fun h15 => ?_) (fun h15 => ?_)
            · have hf := q_ip h15 hf
              refine q_blk 7 [] (c' := q_kc (0, r, m, 499, 529, ext, rx, L) I E 61 [none, some (.ref 473), none, none, some (.int (1 : Int32)), some (.int (0 : Int32))] [.int (0 : Int32)] [(473, (q_up r12.2.1 10 ((r12.2.1 10) + (1 : Int32)))), (475, r12.2.2.1), (476, r12.2.2.2.1), (477, r12.2.2.2.2.1), (478, r12.2.2.2.2.2.1), (479, r12.2.2.2.2.2.2.1), (480, r12.2.2.2.2.2.2.2.1), (481, r12.2.2.2.2.2.2.2.2.1), (482, r12.2.2.2.2.2.2.2.2.2.1), (483, r12.2.2.2.2.2.2.2.2.2.2.1), (484, r12.2.2.2.2.2.2.2.2.2.2.2.1), (485, r12.2.2.2.2.2.2.2.2.2.2.2.2.1), (486, r12.2.2.2.2.2.2.2.2.2.2.2.2.2.1), (487, r12.2.2.2.2.2.2.2.2.2.2.2.2.2.2.1), (488, r12.2.2.2.2.2.2.2.2.2.2.2.2.2.2.2.1), (490, r12.2.2.2.2.2.2.2.2.2.2.2.2.2.2.2.2.1), (491, r12.2.2.2.2.2.2.2.2.2.2.2.2.2.2.2.2.2)] []) ok_X3_passNext rfl q_cn ?_
              cases hf
              exact q_kri ok_X3_passNext rfl rfl rfl (Nat.le_of_ble_eq_true rfl) (Nat.le_of_ble_eq_true rfl) ⟨rfl, q_hpe (q_fin [473, 475, 476, 477, 478, 479, 480, 481, 482, 483, 484, 485, 486, 487, 488, 490, 491] rfl) (q_fin [] rfl)⟩
            · have hf := q_in h15 hf
              refine q_blk 13 [] (c' := q_kc (0, r, m, 499, 529, ext, rx, L) I E 61 [none, some (.ref 473), none, none, some (.int (1 : Int32)), some (.int (0 : Int32))] [.int (0 : Int32)] [(473, (q_up (q_up r12.2.1 11 ((r12.2.1 11) + (1 : Int32))) 10 (((q_up r12.2.1 11 ((r12.2.1 11) + (1 : Int32))) 10) + (1 : Int32)))), (475, r12.2.2.1), (476, r12.2.2.2.1), (477, r12.2.2.2.2.1), (478, r12.2.2.2.2.2.1), (479, r12.2.2.2.2.2.2.1), (480, r12.2.2.2.2.2.2.2.1), (481, r12.2.2.2.2.2.2.2.2.1), (482, r12.2.2.2.2.2.2.2.2.2.1), (483, r12.2.2.2.2.2.2.2.2.2.2.1), (484, r12.2.2.2.2.2.2.2.2.2.2.2.1), (485, r12.2.2.2.2.2.2.2.2.2.2.2.2.1), (486, r12.2.2.2.2.2.2.2.2.2.2.2.2.2.1), (487, r12.2.2.2.2.2.2.2.2.2.2.2.2.2.2.1), (488, r12.2.2.2.2.2.2.2.2.2.2.2.2.2.2.2.1), (490, r12.2.2.2.2.2.2.2.2.2.2.2.2.2.2.2.2.1), (491, r12.2.2.2.2.2.2.2.2.2.2.2.2.2.2.2.2.2)] []) ok_X3_passNext rfl q_cn ?_
              cases hf
              exact q_kri ok_X3_passNext rfl rfl rfl (Nat.le_of_ble_eq_true rfl) (Nat.le_of_ble_eq_true rfl) ⟨rfl, q_hpe (q_fin [473, 475, 476, 477, 478, 479, 480, 481, 482, 483, 484, 485, 486, 487, 488, 490, 491] rfl) (q_fin [] rfl)⟩
        · have hf := q_in h13 hf
          refine q_blf 4 [] (a := q_kc (0, r, m, 499, 529, ext, rx, L) I E 54 [none, some (.ref 473), none, none, some (.int (1 : Int32)), some (.int (1 : Int32))] [] [(473, r12.2.1), (475, r12.2.2.1), (476, r12.2.2.2.1), (477, r12.2.2.2.2.1), (478, r12.2.2.2.2.2.1), (479, r12.2.2.2.2.2.2.1), (480, r12.2.2.2.2.2.2.2.1), (481, r12.2.2.2.2.2.2.2.2.1), (482, r12.2.2.2.2.2.2.2.2.2.1), (483, r12.2.2.2.2.2.2.2.2.2.2.1), (484, r12.2.2.2.2.2.2.2.2.2.2.2.1), (485, r12.2.2.2.2.2.2.2.2.2.2.2.2.1), (486, r12.2.2.2.2.2.2.2.2.2.2.2.2.2.1), (487, r12.2.2.2.2.2.2.2.2.2.2.2.2.2.2.1), (488, r12.2.2.2.2.2.2.2.2.2.2.2.2.2.2.2.1), (490, r12.2.2.2.2.2.2.2.2.2.2.2.2.2.2.2.2.1), (491, r12.2.2.2.2.2.2.2.2.2.2.2.2.2.2.2.2.2)] []) (b := q_kc (0, r, m, 499, 529, ext, rx, L) I E 46 [none, some (.ref 473), none, none, some (.int (1 : Int32)), some (.int (1 : Int32))] [] [(473, r12.2.1), (475, r12.2.2.1), (476, r12.2.2.2.1), (477, r12.2.2.2.2.1), (478, r12.2.2.2.2.2.1), (479, r12.2.2.2.2.2.2.1), (480, r12.2.2.2.2.2.2.2.1), (481, r12.2.2.2.2.2.2.2.2.1), (482, r12.2.2.2.2.2.2.2.2.2.1), (483, r12.2.2.2.2.2.2.2.2.2.2.1), (484, r12.2.2.2.2.2.2.2.2.2.2.2.1), (485, r12.2.2.2.2.2.2.2.2.2.2.2.2.1), (486, r12.2.2.2.2.2.2.2.2.2.2.2.2.2.1), (487, r12.2.2.2.2.2.2.2.2.2.2.2.2.2.2.1), (488, r12.2.2.2.2.2.2.2.2.2.2.2.2.2.2.2.1), (490, r12.2.2.2.2.2.2.2.2.2.2.2.2.2.2.2.2.1), (491, r12.2.2.2.2.2.2.2.2.2.2.2.2.2.2.2.2.2)] []) (P := (1 : Int32) = 0) ok_X3_passNext rfl q_cn (fun h16 => ?_) (fun h16 => ?_)
          · have hf := q_ip h16 hf
            refine q_blk 7 [] (c' := q_kc (0, r, m, 499, 529, ext, rx, L) I E 61 [none, some (.ref 473), none, none, some (.int (1 : Int32)), some (.int (1 : Int32))] [.int (1 : Int32)] [(473, (q_up r12.2.1 10 ((r12.2.1 10) + (1 : Int32)))), (475, r12.2.2.1), (476, r12.2.2.2.1), (477, r12.2.2.2.2.1), (478, r12.2.2.2.2.2.1), (479, r12.2.2.2.2.2.2.1), (480, r12.2.2.2.2.2.2.2.1), (481, r12.2.2.2.2.2.2.2.2.1), (482, r12.2.2.2.2.2.2.2.2.2.1), (483, r12.2.2.2.2.2.2.2.2.2.2.1), (484, r12.2.2.2.2.2.2.2.2.2.2.2.1), (485, r12.2.2.2.2.2.2.2.2.2.2.2.2.1), (486, r12.2.2.2.2.2.2.2.2.2.2.2.2.2.1), (487, r12.2.2.2.2.2.2.2.2.2.2.2.2.2.2.1), (488, r12.2.2.2.2.2.2.2.2.2.2.2.2.2.2.2.1), (490, r12.2.2.2.2.2.2.2.2.2.2.2.2.2.2.2.2.1), (491, r12.2.2.2.2.2.2.2.2.2.2.2.2.2.2.2.2.2)] []) ok_X3_passNext rfl q_cn ?_
            cases hf
            exact q_kri ok_X3_passNext rfl rfl rfl (Nat.le_of_ble_eq_true rfl) (Nat.le_of_ble_eq_true rfl) ⟨rfl, q_hpe (q_fin [473, 475, 476, 477, 478, 479, 480, 481, 482, 483, 484, 485, 486, 487, 488, 490, 491] rfl) (q_fin [] rfl)⟩
          · have hf := q_in h16 hf
            refine q_blf 1 [] (a := q_kc (0, r, m, 499, 529, ext, rx, L) I E 54 [none, some (.ref 473), none, none, some (.int (1 : Int32)), some (.int (1 : Int32))] [] [(473, r12.2.1), (475, r12.2.2.1), (476, r12.2.2.2.1), (477, r12.2.2.2.2.1), (478, r12.2.2.2.2.2.1), (479, r12.2.2.2.2.2.2.1), (480, r12.2.2.2.2.2.2.2.1), (481, r12.2.2.2.2.2.2.2.2.1), (482, r12.2.2.2.2.2.2.2.2.2.1), (483, r12.2.2.2.2.2.2.2.2.2.2.1), (484, r12.2.2.2.2.2.2.2.2.2.2.2.1), (485, r12.2.2.2.2.2.2.2.2.2.2.2.2.1), (486, r12.2.2.2.2.2.2.2.2.2.2.2.2.2.1), (487, r12.2.2.2.2.2.2.2.2.2.2.2.2.2.2.1), (488, r12.2.2.2.2.2.2.2.2.2.2.2.2.2.2.2.1), (490, r12.2.2.2.2.2.2.2.2.2.2.2.2.2.2.2.2.1), (491, r12.2.2.2.2.2.2.2.2.2.2.2.2.2.2.2.2.2)] []) (b := q_kc (0, r, m, 499, 529, ext, rx, L) I E 48 [none, some (.ref 473), none, none, some (.int (1 : Int32)), some (.int (1 : Int32))] [] [(473, r12.2.1), (475, r12.2.2.1), (476, r12.2.2.2.1), (477, r12.2.2.2.2.1), (478, r12.2.2.2.2.2.1), (479, r12.2.2.2.2.2.2.1), (480, r12.2.2.2.2.2.2.2.1), (481, r12.2.2.2.2.2.2.2.2.1), (482, r12.2.2.2.2.2.2.2.2.2.1), (483, r12.2.2.2.2.2.2.2.2.2.2.1), (484, r12.2.2.2.2.2.2.2.2.2.2.2.1), (485, r12.2.2.2.2.2.2.2.2.2.2.2.2.1), (486, r12.2.2.2.2.2.2.2.2.2.2.2.2.2.1), (487, r12.2.2.2.2.2.2.2.2.2.2.2.2.2.2.1), (488, r12.2.2.2.2.2.2.2.2.2.2.2.2.2.2.2.1), (490, r12.2.2.2.2.2.2.2.2.2.2.2.2.2.2.2.2.1), (491, r12.2.2.2.2.2.2.2.2.2.2.2.2.2.2.2.2.2)] []) (P := ¬ (1 : Int32) = 0) ok_X3_passNext rfl q_cn (fun h17 => ?_) (fun h17 => ?_)
            · have hf := q_ip h17 hf
              refine q_blk 7 [] (c' := q_kc (0, r, m, 499, 529, ext, rx, L) I E 61 [none, some (.ref 473), none, none, some (.int (1 : Int32)), some (.int (1 : Int32))] [.int (1 : Int32)] [(473, (q_up r12.2.1 10 ((r12.2.1 10) + (1 : Int32)))), (475, r12.2.2.1), (476, r12.2.2.2.1), (477, r12.2.2.2.2.1), (478, r12.2.2.2.2.2.1), (479, r12.2.2.2.2.2.2.1), (480, r12.2.2.2.2.2.2.2.1), (481, r12.2.2.2.2.2.2.2.2.1), (482, r12.2.2.2.2.2.2.2.2.2.1), (483, r12.2.2.2.2.2.2.2.2.2.2.1), (484, r12.2.2.2.2.2.2.2.2.2.2.2.1), (485, r12.2.2.2.2.2.2.2.2.2.2.2.2.1), (486, r12.2.2.2.2.2.2.2.2.2.2.2.2.2.1), (487, r12.2.2.2.2.2.2.2.2.2.2.2.2.2.2.1), (488, r12.2.2.2.2.2.2.2.2.2.2.2.2.2.2.2.1), (490, r12.2.2.2.2.2.2.2.2.2.2.2.2.2.2.2.2.1), (491, r12.2.2.2.2.2.2.2.2.2.2.2.2.2.2.2.2.2)] []) ok_X3_passNext rfl q_cn ?_
              cases hf
              exact q_kri ok_X3_passNext rfl rfl rfl (Nat.le_of_ble_eq_true rfl) (Nat.le_of_ble_eq_true rfl) ⟨rfl, q_hpe (q_fin [473, 475, 476, 477, 478, 479, 480, 481, 482, 483, 484, 485, 486, 487, 488, 490, 491] rfl) (q_fin [] rfl)⟩
            · have hf := q_in h17 hf
              refine q_blk 13 [] (c' := q_kc (0, r, m, 499, 529, ext, rx, L) I E 61 [none, some (.ref 473), none, none, some (.int (1 : Int32)), some (.int (1 : Int32))] [.int (1 : Int32)] [(473, (q_up (q_up r12.2.1 11 ((r12.2.1 11) + (1 : Int32))) 10 (((q_up r12.2.1 11 ((r12.2.1 11) + (1 : Int32))) 10) + (1 : Int32)))), (475, r12.2.2.1), (476, r12.2.2.2.1), (477, r12.2.2.2.2.1), (478, r12.2.2.2.2.2.1), (479, r12.2.2.2.2.2.2.1), (480, r12.2.2.2.2.2.2.2.1), (481, r12.2.2.2.2.2.2.2.2.1), (482, r12.2.2.2.2.2.2.2.2.2.1), (483, r12.2.2.2.2.2.2.2.2.2.2.1), (484, r12.2.2.2.2.2.2.2.2.2.2.2.1), (485, r12.2.2.2.2.2.2.2.2.2.2.2.2.1), (486, r12.2.2.2.2.2.2.2.2.2.2.2.2.2.1), (487, r12.2.2.2.2.2.2.2.2.2.2.2.2.2.2.1), (488, r12.2.2.2.2.2.2.2.2.2.2.2.2.2.2.2.1), (490, r12.2.2.2.2.2.2.2.2.2.2.2.2.2.2.2.2.1), (491, r12.2.2.2.2.2.2.2.2.2.2.2.2.2.2.2.2.2)] []) ok_X3_passNext rfl q_cn ?_
              cases hf
              exact q_kri ok_X3_passNext rfl rfl rfl (Nat.le_of_ble_eq_true rfl) (Nat.le_of_ble_eq_true rfl) ⟨rfl, q_hpe (q_fin [473, 475, 476, 477, 478, 479, 480, 481, 482, 483, 484, 485, 486, 487, 488, 490, 491] rfl) (q_fin [] rfl)⟩
    · have hf := q_in h8 hf
      refine q_blk 4 [] (c' := q_kc (0, r, m, 499, 529, ext, rx, L) I E 23 [some (.ref 489), some (.ref 473), some (.int ((I 402) 4)), some (.ref (406 + r4)), none, none] [.ref (406 + r4), .ref 473, .ref 490] [] []) ok_X3_passNext rfl q_cn ?_
      refine q_kgT (pos' := 24) (x := ((fun j => I (406 + j)) r4 6)) ok_X3_passNext rfl (Or.inl rfl) (q_t20_lt hu6) rfl rfl (q_wsT0 (q_t20_lt hu6) rfl) rfl ?_
      refine q_blk 1 [] (c' := q_kc (0, r, m, 499, 529, ext, rx, L) I E 25 [some (.ref 489), some (.ref 473), some (.int ((I 402) 4)), some (.ref (406 + r4)), none, none] [.ref (406 + r4), .int ((fun j => I (406 + j)) r4 6), .ref 473, .ref 490] [] []) ok_X3_passNext rfl q_cn ?_
      refine q_kgT (pos' := 26) (x := ((fun j => I (406 + j)) r4 7)) ok_X3_passNext rfl (Or.inl rfl) (q_t20_lt hu6) rfl rfl (q_wsT0 (q_t20_lt hu6) rfl) rfl ?_
      obtain ⟨r18, hr18, hf⟩ := q_bd hf
      refine q_kV (M2 := m_X8_reckon) (As := [.ref 473, .int ((fun j => I (406 + j)) r4 6), .int ((fun j => I (406 + j)) r4 7)]) (b := 490) (v2 := some (.int r18.1)) ok_X3_passNext ok_X8_reckon cv_X8_reckon (ct_X8_reckon_490_473 (d := 4) (Nat.le_refl _) hr18) rfl rfl (Or.inl rfl) rfl rfl rfl rfl (Nat.le_trans (Nat.le_of_ble_eq_true rfl) hd) (Nat.le_of_ble_eq_true rfl) (Nat.le_of_ble_eq_true rfl) (Nat.le_of_ble_eq_true rfl) (fun x hx => absurd hx List.not_mem_nil) (q_nmL0 _) (q_nmS0 _) rfl (pos' := 27) (st' := [.int r18.1]) (lI' := [(490, r18.2.1), (491, r18.2.2)]) (lE' := []) rfl rfl rfl rfl ?_
      refine q_blf 1 [] (a := q_kc (0, r, m, 499, 529, ext, rx, L) I E 31 [some (.ref 489), some (.ref 473), some (.int ((I 402) 4)), some (.ref (406 + r4)), none, none] [] [(490, r18.2.1), (491, r18.2.2)] []) (b := q_kc (0, r, m, 499, 529, ext, rx, L) I E 29 [some (.ref 489), some (.ref 473), some (.int ((I 402) 4)), some (.ref (406 + r4)), none, none] [] [(490, r18.2.1), (491, r18.2.2)] []) (P := ¬ r18.1 = (1 : Int32)) ok_X3_passNext rfl q_cn (fun h19 => ?_) (fun h19 => ?_)
      · have hf := q_ip h19 hf
        refine q_blf 3 [] (a := q_kc (0, r, m, 499, 529, ext, rx, L) I E 42 [some (.ref 489), some (.ref 473), some (.int ((I 402) 4)), some (.ref (406 + r4)), some (.int (0 : Int32)), none] [] [(490, r18.2.1), (491, r18.2.2)] []) (b := q_kc (0, r, m, 499, 529, ext, rx, L) I E 35 [some (.ref 489), some (.ref 473), some (.int ((I 402) 4)), some (.ref (406 + r4)), some (.int (0 : Int32)), none] [] [(490, r18.2.1), (491, r18.2.2)] []) (P := (0 : Int32) = 0) ok_X3_passNext rfl q_cn (fun h20 => ?_) (fun h20 => ?_)
        · have hf := q_ip h20 hf
          refine q_blf 3 [] (a := q_kc (0, r, m, 499, 529, ext, rx, L) I E 54 [some (.ref 489), some (.ref 473), some (.int ((I 402) 4)), some (.ref (406 + r4)), some (.int (0 : Int32)), some (.int (0 : Int32))] [] [(490, r18.2.1), (491, r18.2.2)] []) (b := q_kc (0, r, m, 499, 529, ext, rx, L) I E 46 [some (.ref 489), some (.ref 473), some (.int ((I 402) 4)), some (.ref (406 + r4)), some (.int (0 : Int32)), some (.int (0 : Int32))] [] [(490, r18.2.1), (491, r18.2.2)] []) (P := (0 : Int32) = 0) ok_X3_passNext rfl q_cn (fun h21 => ?_) (fun h21 => ?_)
          · have hf := q_ip h21 hf
            refine q_blk 7 [] (c' := q_kc (0, r, m, 499, 529, ext, rx, L) I E 61 [some (.ref 489), some (.ref 473), some (.int ((I 402) 4)), some (.ref (406 + r4)), some (.int (0 : Int32)), some (.int (0 : Int32))] [.int (0 : Int32)] [(473, (q_up (I 473) 10 (((I 473) 10) + (1 : Int32)))), (490, r18.2.1), (491, r18.2.2)] []) ok_X3_passNext rfl q_cn ?_
            cases hf
            exact q_kri ok_X3_passNext rfl rfl rfl (Nat.le_of_ble_eq_true rfl) (Nat.le_of_ble_eq_true rfl) ⟨rfl, q_hpe (q_fin [473, 475, 476, 477, 478, 479, 480, 481, 482, 483, 484, 485, 486, 487, 488, 490, 491] rfl) (q_fin [] rfl)⟩
          · have hf := q_in h21 hf
            refine q_blf 1 [] (a := q_kc (0, r, m, 499, 529, ext, rx, L) I E 54 [some (.ref 489), some (.ref 473), some (.int ((I 402) 4)), some (.ref (406 + r4)), some (.int (0 : Int32)), some (.int (0 : Int32))] [] [(490, r18.2.1), (491, r18.2.2)] []) (b := q_kc (0, r, m, 499, 529, ext, rx, L) I E 48 [some (.ref 489), some (.ref 473), some (.int ((I 402) 4)), some (.ref (406 + r4)), some (.int (0 : Int32)), some (.int (0 : Int32))] [] [(490, r18.2.1), (491, r18.2.2)] []) (P := ¬ (0 : Int32) = 0) ok_X3_passNext rfl q_cn (fun h22 => ?_) (fun h22 => ?_)
            · have hf := q_ip h22 hf
              refine q_blk 7 [] (c' := q_kc (0, r, m, 499, 529, ext, rx, L) I E 61 [some (.ref 489), some (.ref 473), some (.int ((I 402) 4)), some (.ref (406 + r4)), some (.int (0 : Int32)), some (.int (0 : Int32))] [.int (0 : Int32)] [(473, (q_up (I 473) 10 (((I 473) 10) + (1 : Int32)))), (490, r18.2.1), (491, r18.2.2)] []) ok_X3_passNext rfl q_cn ?_
              cases hf
              exact q_kri ok_X3_passNext rfl rfl rfl (Nat.le_of_ble_eq_true rfl) (Nat.le_of_ble_eq_true rfl) ⟨rfl, q_hpe (q_fin [473, 475, 476, 477, 478, 479, 480, 481, 482, 483, 484, 485, 486, 487, 488, 490, 491] rfl) (q_fin [] rfl)⟩
            · have hf := q_in h22 hf
              refine q_blk 13 [] (c' := q_kc (0, r, m, 499, 529, ext, rx, L) I E 61 [some (.ref 489), some (.ref 473), some (.int ((I 402) 4)), some (.ref (406 + r4)), some (.int (0 : Int32)), some (.int (0 : Int32))] [.int (0 : Int32)] [(473, (q_up (q_up (I 473) 11 (((I 473) 11) + (1 : Int32))) 10 (((q_up (I 473) 11 (((I 473) 11) + (1 : Int32))) 10) + (1 : Int32)))), (490, r18.2.1), (491, r18.2.2)] []) ok_X3_passNext rfl q_cn ?_
              cases hf
              exact q_kri ok_X3_passNext rfl rfl rfl (Nat.le_of_ble_eq_true rfl) (Nat.le_of_ble_eq_true rfl) ⟨rfl, q_hpe (q_fin [473, 475, 476, 477, 478, 479, 480, 481, 482, 483, 484, 485, 486, 487, 488, 490, 491] rfl) (q_fin [] rfl)⟩
        · have hf := q_in h20 hf
          refine q_blk 3 [] (c' := q_kc (0, r, m, 499, 529, ext, rx, L) I E 38 [some (.ref 489), some (.ref 473), some (.int ((I 402) 4)), some (.ref (406 + r4)), some (.int (0 : Int32)), none] [.ref (406 + r4), .ref 473, .ref 489] [(490, r18.2.1), (491, r18.2.2)] []) ok_X3_passNext rfl q_cn ?_
          refine q_less (ls' := [none, some (.ref 473), none, none, some (.int (0 : Int32)), none]) (q_sb1 (q_sb2 (q_sb1 (q_sb1 (q_sb2 (q_sb1 q_sb0)))))) ?_
          obtain ⟨r23, hr23, hf⟩ := q_bd hf
          refine q_kV (M2 := m_X3_perform) (As := [.ref 473, .ref (406 + r4)]) (b := 489) (v2 := some (.int (q_bz r23.1))) ok_X3_passNext ok_X3_perform cv_X3_perform (ct_X3_perform_489_473_T406 (d := 5) (Nat.le_refl _) hr23) rfl rfl (Or.inl rfl) rfl rfl rfl rfl (Nat.le_trans (Nat.le_of_ble_eq_true rfl) hd) (Nat.le_of_ble_eq_true rfl) (Nat.le_of_ble_eq_true rfl) (Nat.le_of_ble_eq_true rfl) (fun x hx => hx) rfl rfl rfl (pos' := 39) (st' := [.int (q_bz r23.1)]) (lI' := [(473, r23.2.1), (475, r23.2.2.1), (476, r23.2.2.2.1), (477, r23.2.2.2.2.1), (478, r23.2.2.2.2.2.1), (479, r23.2.2.2.2.2.2.1), (480, r23.2.2.2.2.2.2.2.1), (481, r23.2.2.2.2.2.2.2.2.1), (482, r23.2.2.2.2.2.2.2.2.2.1), (483, r23.2.2.2.2.2.2.2.2.2.2.1), (484, r23.2.2.2.2.2.2.2.2.2.2.2.1), (485, r23.2.2.2.2.2.2.2.2.2.2.2.2.1), (486, r23.2.2.2.2.2.2.2.2.2.2.2.2.2.1), (487, r23.2.2.2.2.2.2.2.2.2.2.2.2.2.2.1), (488, r23.2.2.2.2.2.2.2.2.2.2.2.2.2.2.2.1), (490, r23.2.2.2.2.2.2.2.2.2.2.2.2.2.2.2.2.1), (491, r23.2.2.2.2.2.2.2.2.2.2.2.2.2.2.2.2.2)]) (lE' := []) rfl rfl rfl rfl ?_
          refine q_blf 0 [] (a := q_kc (0, r, m, 499, 529, ext, rx, L) I E 42 [none, some (.ref 473), none, none, some (.int (0 : Int32)), none] [] [(473, r23.2.1), (475, r23.2.2.1), (476, r23.2.2.2.1), (477, r23.2.2.2.2.1), (478, r23.2.2.2.2.2.1), (479, r23.2.2.2.2.2.2.1), (480, r23.2.2.2.2.2.2.2.1), (481, r23.2.2.2.2.2.2.2.2.1), (482, r23.2.2.2.2.2.2.2.2.2.1), (483, r23.2.2.2.2.2.2.2.2.2.2.1), (484, r23.2.2.2.2.2.2.2.2.2.2.2.1), (485, r23.2.2.2.2.2.2.2.2.2.2.2.2.1), (486, r23.2.2.2.2.2.2.2.2.2.2.2.2.2.1), (487, r23.2.2.2.2.2.2.2.2.2.2.2.2.2.2.1), (488, r23.2.2.2.2.2.2.2.2.2.2.2.2.2.2.2.1), (490, r23.2.2.2.2.2.2.2.2.2.2.2.2.2.2.2.2.1), (491, r23.2.2.2.2.2.2.2.2.2.2.2.2.2.2.2.2.2)] []) (b := q_kc (0, r, m, 499, 529, ext, rx, L) I E 40 [none, some (.ref 473), none, none, some (.int (0 : Int32)), none] [] [(473, r23.2.1), (475, r23.2.2.1), (476, r23.2.2.2.1), (477, r23.2.2.2.2.1), (478, r23.2.2.2.2.2.1), (479, r23.2.2.2.2.2.2.1), (480, r23.2.2.2.2.2.2.2.1), (481, r23.2.2.2.2.2.2.2.2.1), (482, r23.2.2.2.2.2.2.2.2.2.1), (483, r23.2.2.2.2.2.2.2.2.2.2.1), (484, r23.2.2.2.2.2.2.2.2.2.2.2.1), (485, r23.2.2.2.2.2.2.2.2.2.2.2.2.1), (486, r23.2.2.2.2.2.2.2.2.2.2.2.2.2.1), (487, r23.2.2.2.2.2.2.2.2.2.2.2.2.2.2.1), (488, r23.2.2.2.2.2.2.2.2.2.2.2.2.2.2.2.1), (490, r23.2.2.2.2.2.2.2.2.2.2.2.2.2.2.2.2.1), (491, r23.2.2.2.2.2.2.2.2.2.2.2.2.2.2.2.2.2)] []) (P := (q_bz r23.1) = 0) ok_X3_passNext rfl q_cn (fun h24 => ?_) (fun h24 => ?_)
          · have hf := q_ip h24 hf
            refine q_blf 3 [] (a := q_kc (0, r, m, 499, 529, ext, rx, L) I E 54 [none, some (.ref 473), none, none, some (.int (0 : Int32)), some (.int (0 : Int32))] [] [(473, r23.2.1), (475, r23.2.2.1), (476, r23.2.2.2.1), (477, r23.2.2.2.2.1), (478, r23.2.2.2.2.2.1), (479, r23.2.2.2.2.2.2.1), (480, r23.2.2.2.2.2.2.2.1), (481, r23.2.2.2.2.2.2.2.2.1), (482, r23.2.2.2.2.2.2.2.2.2.1), (483, r23.2.2.2.2.2.2.2.2.2.2.1), (484, r23.2.2.2.2.2.2.2.2.2.2.2.1), (485, r23.2.2.2.2.2.2.2.2.2.2.2.2.1), (486, r23.2.2.2.2.2.2.2.2.2.2.2.2.2.1), (487, r23.2.2.2.2.2.2.2.2.2.2.2.2.2.2.1), (488, r23.2.2.2.2.2.2.2.2.2.2.2.2.2.2.2.1), (490, r23.2.2.2.2.2.2.2.2.2.2.2.2.2.2.2.2.1), (491, r23.2.2.2.2.2.2.2.2.2.2.2.2.2.2.2.2.2)] []) (b := q_kc (0, r, m, 499, 529, ext, rx, L) I E 46 [none, some (.ref 473), none, none, some (.int (0 : Int32)), some (.int (0 : Int32))] [] [(473, r23.2.1), (475, r23.2.2.1), (476, r23.2.2.2.1), (477, r23.2.2.2.2.1), (478, r23.2.2.2.2.2.1), (479, r23.2.2.2.2.2.2.1), (480, r23.2.2.2.2.2.2.2.1), (481, r23.2.2.2.2.2.2.2.2.1), (482, r23.2.2.2.2.2.2.2.2.2.1), (483, r23.2.2.2.2.2.2.2.2.2.2.1), (484, r23.2.2.2.2.2.2.2.2.2.2.2.1), (485, r23.2.2.2.2.2.2.2.2.2.2.2.2.1), (486, r23.2.2.2.2.2.2.2.2.2.2.2.2.2.1), (487, r23.2.2.2.2.2.2.2.2.2.2.2.2.2.2.1), (488, r23.2.2.2.2.2.2.2.2.2.2.2.2.2.2.2.1), (490, r23.2.2.2.2.2.2.2.2.2.2.2.2.2.2.2.2.1), (491, r23.2.2.2.2.2.2.2.2.2.2.2.2.2.2.2.2.2)] []) (P := (0 : Int32) = 0) ok_X3_passNext rfl q_cn (fun h25 => ?_) (fun h25 => ?_)
            · have hf := q_ip h25 hf
              refine q_blk 7 [] (c' := q_kc (0, r, m, 499, 529, ext, rx, L) I E 61 [none, some (.ref 473), none, none, some (.int (0 : Int32)), some (.int (0 : Int32))] [.int (0 : Int32)] [(473, (q_up r23.2.1 10 ((r23.2.1 10) + (1 : Int32)))), (475, r23.2.2.1), (476, r23.2.2.2.1), (477, r23.2.2.2.2.1), (478, r23.2.2.2.2.2.1), (479, r23.2.2.2.2.2.2.1), (480, r23.2.2.2.2.2.2.2.1), (481, r23.2.2.2.2.2.2.2.2.1), (482, r23.2.2.2.2.2.2.2.2.2.1), (483, r23.2.2.2.2.2.2.2.2.2.2.1), (484, r23.2.2.2.2.2.2.2.2.2.2.2.1), (485, r23.2.2.2.2.2.2.2.2.2.2.2.2.1), (486, r23.2.2.2.2.2.2.2.2.2.2.2.2.2.1), (487, r23.2.2.2.2.2.2.2.2.2.2.2.2.2.2.1), (488, r23.2.2.2.2.2.2.2.2.2.2.2.2.2.2.2.1), (490, r23.2.2.2.2.2.2.2.2.2.2.2.2.2.2.2.2.1), (491, r23.2.2.2.2.2.2.2.2.2.2.2.2.2.2.2.2.2)] []) ok_X3_passNext rfl q_cn ?_
              cases hf
              exact q_kri ok_X3_passNext rfl rfl rfl (Nat.le_of_ble_eq_true rfl) (Nat.le_of_ble_eq_true rfl) ⟨rfl, q_hpe (q_fin [473, 475, 476, 477, 478, 479, 480, 481, 482, 483, 484, 485, 486, 487, 488, 490, 491] rfl) (q_fin [] rfl)⟩
            · have hf := q_in h25 hf
              refine q_blf 1 [] (a := q_kc (0, r, m, 499, 529, ext, rx, L) I E 54 [none, some (.ref 473), none, none, some (.int (0 : Int32)), some (.int (0 : Int32))] [] [(473, r23.2.1), (475, r23.2.2.1), (476, r23.2.2.2.1), (477, r23.2.2.2.2.1), (478, r23.2.2.2.2.2.1), (479, r23.2.2.2.2.2.2.1), (480, r23.2.2.2.2.2.2.2.1), (481, r23.2.2.2.2.2.2.2.2.1), (482, r23.2.2.2.2.2.2.2.2.2.1), (483, r23.2.2.2.2.2.2.2.2.2.2.1), (484, r23.2.2.2.2.2.2.2.2.2.2.2.1), (485, r23.2.2.2.2.2.2.2.2.2.2.2.2.1), (486, r23.2.2.2.2.2.2.2.2.2.2.2.2.2.1), (487, r23.2.2.2.2.2.2.2.2.2.2.2.2.2.2.1), (488, r23.2.2.2.2.2.2.2.2.2.2.2.2.2.2.2.1), (490, r23.2.2.2.2.2.2.2.2.2.2.2.2.2.2.2.2.1), (491, r23.2.2.2.2.2.2.2.2.2.2.2.2.2.2.2.2.2)] []) (b := q_kc (0, r, m, 499, 529, ext, rx, L) I E 48 [none, some (.ref 473), none, none, some (.int (0 : Int32)), some (.int (0 : Int32))] [] [(473, r23.2.1), (475, r23.2.2.1), (476, r23.2.2.2.1), (477, r23.2.2.2.2.1), (478, r23.2.2.2.2.2.1), (479, r23.2.2.2.2.2.2.1), (480, r23.2.2.2.2.2.2.2.1), (481, r23.2.2.2.2.2.2.2.2.1), (482, r23.2.2.2.2.2.2.2.2.2.1), (483, r23.2.2.2.2.2.2.2.2.2.2.1), (484, r23.2.2.2.2.2.2.2.2.2.2.2.1), (485, r23.2.2.2.2.2.2.2.2.2.2.2.2.1), (486, r23.2.2.2.2.2.2.2.2.2.2.2.2.2.1), (487, r23.2.2.2.2.2.2.2.2.2.2.2.2.2.2.1), (488, r23.2.2.2.2.2.2.2.2.2.2.2.2.2.2.2.1), (490, r23.2.2.2.2.2.2.2.2.2.2.2.2.2.2.2.2.1), (491, r23.2.2.2.2.2.2.2.2.2.2.2.2.2.2.2.2.2)] []) (P := ¬ (0 : Int32) = 0) ok_X3_passNext rfl q_cn (fun h26 => ?_) (fun h26 => ?_)
              · have hf := q_ip h26 hf
                refine q_blk 7 [] (c' := q_kc (0, r, m, 499, 529, ext, rx, L) I E 61 [none, some (.ref 473), none, none, some (.int (0 : Int32)), some (.int (0 : Int32))] [.int (0 : Int32)] [(473, (q_up r23.2.1 10 ((r23.2.1 10) + (1 : Int32)))), (475, r23.2.2.1), (476, r23.2.2.2.1), (477, r23.2.2.2.2.1), (478, r23.2.2.2.2.2.1), (479, r23.2.2.2.2.2.2.1), (480, r23.2.2.2.2.2.2.2.1), (481, r23.2.2.2.2.2.2.2.2.1), (482, r23.2.2.2.2.2.2.2.2.2.1), (483, r23.2.2.2.2.2.2.2.2.2.2.1), (484, r23.2.2.2.2.2.2.2.2.2.2.2.1), (485, r23.2.2.2.2.2.2.2.2.2.2.2.2.1), (486, r23.2.2.2.2.2.2.2.2.2.2.2.2.2.1), (487, r23.2.2.2.2.2.2.2.2.2.2.2.2.2.2.1), (488, r23.2.2.2.2.2.2.2.2.2.2.2.2.2.2.2.1), (490, r23.2.2.2.2.2.2.2.2.2.2.2.2.2.2.2.2.1), (491, r23.2.2.2.2.2.2.2.2.2.2.2.2.2.2.2.2.2)] []) ok_X3_passNext rfl q_cn ?_
                cases hf
                exact q_kri ok_X3_passNext rfl rfl rfl (Nat.le_of_ble_eq_true rfl) (Nat.le_of_ble_eq_true rfl) ⟨rfl, q_hpe (q_fin [473, 475, 476, 477, 478, 479, 480, 481, 482, 483, 484, 485, 486, 487, 488, 490, 491] rfl) (q_fin [] rfl)⟩
              · have hf := q_in h26 hf
                refine q_blk 13 [] (c' := q_kc (0, r, m, 499, 529, ext, rx, L) I E 61 [none, some (.ref 473), none, none, some (.int (0 : Int32)), some (.int (0 : Int32))] [.int (0 : Int32)] [(473, (q_up (q_up r23.2.1 11 ((r23.2.1 11) + (1 : Int32))) 10 (((q_up r23.2.1 11 ((r23.2.1 11) + (1 : Int32))) 10) + (1 : Int32)))), (475, r23.2.2.1), (476, r23.2.2.2.1), (477, r23.2.2.2.2.1), (478, r23.2.2.2.2.2.1), (479, r23.2.2.2.2.2.2.1), (480, r23.2.2.2.2.2.2.2.1), (481, r23.2.2.2.2.2.2.2.2.1), (482, r23.2.2.2.2.2.2.2.2.2.1), (483, r23.2.2.2.2.2.2.2.2.2.2.1), (484, r23.2.2.2.2.2.2.2.2.2.2.2.1), (485, r23.2.2.2.2.2.2.2.2.2.2.2.2.1), (486, r23.2.2.2.2.2.2.2.2.2.2.2.2.2.1), (487, r23.2.2.2.2.2.2.2.2.2.2.2.2.2.2.1), (488, r23.2.2.2.2.2.2.2.2.2.2.2.2.2.2.2.1), (490, r23.2.2.2.2.2.2.2.2.2.2.2.2.2.2.2.2.1), (491, r23.2.2.2.2.2.2.2.2.2.2.2.2.2.2.2.2.2)] []) ok_X3_passNext rfl q_cn ?_
                cases hf
                exact q_kri ok_X3_passNext rfl rfl rfl (Nat.le_of_ble_eq_true rfl) (Nat.le_of_ble_eq_true rfl) ⟨rfl, q_hpe (q_fin [473, 475, 476, 477, 478, 479, 480, 481, 482, 483, 484, 485, 486, 487, 488, 490, 491] rfl) (q_fin [] rfl)⟩
          · have hf := q_in h24 hf
            refine q_blf 4 [] (a := q_kc (0, r, m, 499, 529, ext, rx, L) I E 54 [none, some (.ref 473), none, none, some (.int (0 : Int32)), some (.int (1 : Int32))] [] [(473, r23.2.1), (475, r23.2.2.1), (476, r23.2.2.2.1), (477, r23.2.2.2.2.1), (478, r23.2.2.2.2.2.1), (479, r23.2.2.2.2.2.2.1), (480, r23.2.2.2.2.2.2.2.1), (481, r23.2.2.2.2.2.2.2.2.1), (482, r23.2.2.2.2.2.2.2.2.2.1), (483, r23.2.2.2.2.2.2.2.2.2.2.1), (484, r23.2.2.2.2.2.2.2.2.2.2.2.1), (485, r23.2.2.2.2.2.2.2.2.2.2.2.2.1), (486, r23.2.2.2.2.2.2.2.2.2.2.2.2.2.1), (487, r23.2.2.2.2.2.2.2.2.2.2.2.2.2.2.1), (488, r23.2.2.2.2.2.2.2.2.2.2.2.2.2.2.2.1), (490, r23.2.2.2.2.2.2.2.2.2.2.2.2.2.2.2.2.1), (491, r23.2.2.2.2.2.2.2.2.2.2.2.2.2.2.2.2.2)] []) (b := q_kc (0, r, m, 499, 529, ext, rx, L) I E 46 [none, some (.ref 473), none, none, some (.int (0 : Int32)), some (.int (1 : Int32))] [] [(473, r23.2.1), (475, r23.2.2.1), (476, r23.2.2.2.1), (477, r23.2.2.2.2.1), (478, r23.2.2.2.2.2.1), (479, r23.2.2.2.2.2.2.1), (480, r23.2.2.2.2.2.2.2.1), (481, r23.2.2.2.2.2.2.2.2.1), (482, r23.2.2.2.2.2.2.2.2.2.1), (483, r23.2.2.2.2.2.2.2.2.2.2.1), (484, r23.2.2.2.2.2.2.2.2.2.2.2.1), (485, r23.2.2.2.2.2.2.2.2.2.2.2.2.1), (486, r23.2.2.2.2.2.2.2.2.2.2.2.2.2.1), (487, r23.2.2.2.2.2.2.2.2.2.2.2.2.2.2.1), (488, r23.2.2.2.2.2.2.2.2.2.2.2.2.2.2.2.1), (490, r23.2.2.2.2.2.2.2.2.2.2.2.2.2.2.2.2.1), (491, r23.2.2.2.2.2.2.2.2.2.2.2.2.2.2.2.2.2)] []) (P := (0 : Int32) = 0) ok_X3_passNext rfl q_cn (fun h27 => ?_) (fun h27 => ?_)
            · have hf := q_ip h27 hf
              refine q_blk 7 [] (c' := q_kc (0, r, m, 499, 529, ext, rx, L) I E 61 [none, some (.ref 473), none, none, some (.int (0 : Int32)), some (.int (1 : Int32))] [.int (1 : Int32)] [(473, (q_up r23.2.1 10 ((r23.2.1 10) + (1 : Int32)))), (475, r23.2.2.1), (476, r23.2.2.2.1), (477, r23.2.2.2.2.1), (478, r23.2.2.2.2.2.1), (479, r23.2.2.2.2.2.2.1), (480, r23.2.2.2.2.2.2.2.1), (481, r23.2.2.2.2.2.2.2.2.1), (482, r23.2.2.2.2.2.2.2.2.2.1), (483, r23.2.2.2.2.2.2.2.2.2.2.1), (484, r23.2.2.2.2.2.2.2.2.2.2.2.1), (485, r23.2.2.2.2.2.2.2.2.2.2.2.2.1), (486, r23.2.2.2.2.2.2.2.2.2.2.2.2.2.1), (487, r23.2.2.2.2.2.2.2.2.2.2.2.2.2.2.1), (488, r23.2.2.2.2.2.2.2.2.2.2.2.2.2.2.2.1), (490, r23.2.2.2.2.2.2.2.2.2.2.2.2.2.2.2.2.1), (491, r23.2.2.2.2.2.2.2.2.2.2.2.2.2.2.2.2.2)] []) ok_X3_passNext rfl q_cn ?_
              cases hf
              exact q_kri ok_X3_passNext rfl rfl rfl (Nat.le_of_ble_eq_true rfl) (Nat.le_of_ble_eq_true rfl) ⟨rfl, q_hpe (q_fin [473, 475, 476, 477, 478, 479, 480, 481, 482, 483, 484, 485, 486, 487, 488, 490, 491] rfl) (q_fin [] rfl)⟩
            · have hf := q_in h27 hf
              refine q_blf 1 [] (a := q_kc (0, r, m, 499, 529, ext, rx, L) I E 54 [none, some (.ref 473), none, none, some (.int (0 : Int32)), some (.int (1 : Int32))] [] [(473, r23.2.1), (475, r23.2.2.1), (476, r23.2.2.2.1), (477, r23.2.2.2.2.1), (478, r23.2.2.2.2.2.1), (479, r23.2.2.2.2.2.2.1), (480, r23.2.2.2.2.2.2.2.1), (481, r23.2.2.2.2.2.2.2.2.1), (482, r23.2.2.2.2.2.2.2.2.2.1), (483, r23.2.2.2.2.2.2.2.2.2.2.1), (484, r23.2.2.2.2.2.2.2.2.2.2.2.1), (485, r23.2.2.2.2.2.2.2.2.2.2.2.2.1), (486, r23.2.2.2.2.2.2.2.2.2.2.2.2.2.1), (487, r23.2.2.2.2.2.2.2.2.2.2.2.2.2.2.1), (488, r23.2.2.2.2.2.2.2.2.2.2.2.2.2.2.2.1), (490, r23.2.2.2.2.2.2.2.2.2.2.2.2.2.2.2.2.1), (491, r23.2.2.2.2.2.2.2.2.2.2.2.2.2.2.2.2.2)] []) (b := q_kc (0, r, m, 499, 529, ext, rx, L) I E 48 [none, some (.ref 473), none, none, some (.int (0 : Int32)), some (.int (1 : Int32))] [] [(473, r23.2.1), (475, r23.2.2.1), (476, r23.2.2.2.1), (477, r23.2.2.2.2.1), (478, r23.2.2.2.2.2.1), (479, r23.2.2.2.2.2.2.1), (480, r23.2.2.2.2.2.2.2.1), (481, r23.2.2.2.2.2.2.2.2.1), (482, r23.2.2.2.2.2.2.2.2.2.1), (483, r23.2.2.2.2.2.2.2.2.2.2.1), (484, r23.2.2.2.2.2.2.2.2.2.2.2.1), (485, r23.2.2.2.2.2.2.2.2.2.2.2.2.1), (486, r23.2.2.2.2.2.2.2.2.2.2.2.2.2.1), (487, r23.2.2.2.2.2.2.2.2.2.2.2.2.2.2.1), (488, r23.2.2.2.2.2.2.2.2.2.2.2.2.2.2.2.1), (490, r23.2.2.2.2.2.2.2.2.2.2.2.2.2.2.2.2.1), (491, r23.2.2.2.2.2.2.2.2.2.2.2.2.2.2.2.2.2)] []) (P := ¬ (1 : Int32) = 0) ok_X3_passNext rfl q_cn (fun h28 => ?_) (fun h28 => ?_)
              · have hf := q_ip h28 hf
                refine q_blk 7 [] (c' := q_kc (0, r, m, 499, 529, ext, rx, L) I E 61 [none, some (.ref 473), none, none, some (.int (0 : Int32)), some (.int (1 : Int32))] [.int (1 : Int32)] [(473, (q_up r23.2.1 10 ((r23.2.1 10) + (1 : Int32)))), (475, r23.2.2.1), (476, r23.2.2.2.1), (477, r23.2.2.2.2.1), (478, r23.2.2.2.2.2.1), (479, r23.2.2.2.2.2.2.1), (480, r23.2.2.2.2.2.2.2.1), (481, r23.2.2.2.2.2.2.2.2.1), (482, r23.2.2.2.2.2.2.2.2.2.1), (483, r23.2.2.2.2.2.2.2.2.2.2.1), (484, r23.2.2.2.2.2.2.2.2.2.2.2.1), (485, r23.2.2.2.2.2.2.2.2.2.2.2.2.1), (486, r23.2.2.2.2.2.2.2.2.2.2.2.2.2.1), (487, r23.2.2.2.2.2.2.2.2.2.2.2.2.2.2.1), (488, r23.2.2.2.2.2.2.2.2.2.2.2.2.2.2.2.1), (490, r23.2.2.2.2.2.2.2.2.2.2.2.2.2.2.2.2.1), (491, r23.2.2.2.2.2.2.2.2.2.2.2.2.2.2.2.2.2)] []) ok_X3_passNext rfl q_cn ?_
                cases hf
                exact q_kri ok_X3_passNext rfl rfl rfl (Nat.le_of_ble_eq_true rfl) (Nat.le_of_ble_eq_true rfl) ⟨rfl, q_hpe (q_fin [473, 475, 476, 477, 478, 479, 480, 481, 482, 483, 484, 485, 486, 487, 488, 490, 491] rfl) (q_fin [] rfl)⟩
              · have hf := q_in h28 hf
                refine q_blk 13 [] (c' := q_kc (0, r, m, 499, 529, ext, rx, L) I E 61 [none, some (.ref 473), none, none, some (.int (0 : Int32)), some (.int (1 : Int32))] [.int (1 : Int32)] [(473, (q_up (q_up r23.2.1 11 ((r23.2.1 11) + (1 : Int32))) 10 (((q_up r23.2.1 11 ((r23.2.1 11) + (1 : Int32))) 10) + (1 : Int32)))), (475, r23.2.2.1), (476, r23.2.2.2.1), (477, r23.2.2.2.2.1), (478, r23.2.2.2.2.2.1), (479, r23.2.2.2.2.2.2.1), (480, r23.2.2.2.2.2.2.2.1), (481, r23.2.2.2.2.2.2.2.2.1), (482, r23.2.2.2.2.2.2.2.2.2.1), (483, r23.2.2.2.2.2.2.2.2.2.2.1), (484, r23.2.2.2.2.2.2.2.2.2.2.2.1), (485, r23.2.2.2.2.2.2.2.2.2.2.2.2.1), (486, r23.2.2.2.2.2.2.2.2.2.2.2.2.2.1), (487, r23.2.2.2.2.2.2.2.2.2.2.2.2.2.2.1), (488, r23.2.2.2.2.2.2.2.2.2.2.2.2.2.2.2.1), (490, r23.2.2.2.2.2.2.2.2.2.2.2.2.2.2.2.2.1), (491, r23.2.2.2.2.2.2.2.2.2.2.2.2.2.2.2.2.2)] []) ok_X3_passNext rfl q_cn ?_
                cases hf
                exact q_kri ok_X3_passNext rfl rfl rfl (Nat.le_of_ble_eq_true rfl) (Nat.le_of_ble_eq_true rfl) ⟨rfl, q_hpe (q_fin [473, 475, 476, 477, 478, 479, 480, 481, 482, 483, 484, 485, 486, 487, 488, 490, 491] rfl) (q_fin [] rfl)⟩
      · have hf := q_in h19 hf
        refine q_blf 4 [] (a := q_kc (0, r, m, 499, 529, ext, rx, L) I E 42 [some (.ref 489), some (.ref 473), some (.int ((I 402) 4)), some (.ref (406 + r4)), some (.int (1 : Int32)), none] [] [(490, r18.2.1), (491, r18.2.2)] []) (b := q_kc (0, r, m, 499, 529, ext, rx, L) I E 35 [some (.ref 489), some (.ref 473), some (.int ((I 402) 4)), some (.ref (406 + r4)), some (.int (1 : Int32)), none] [] [(490, r18.2.1), (491, r18.2.2)] []) (P := (1 : Int32) = 0) ok_X3_passNext rfl q_cn (fun h29 => ?_) (fun h29 => ?_)
        · have hf := q_ip h29 hf
          refine q_blf 3 [] (a := q_kc (0, r, m, 499, 529, ext, rx, L) I E 54 [some (.ref 489), some (.ref 473), some (.int ((I 402) 4)), some (.ref (406 + r4)), some (.int (1 : Int32)), some (.int (0 : Int32))] [] [(490, r18.2.1), (491, r18.2.2)] []) (b := q_kc (0, r, m, 499, 529, ext, rx, L) I E 46 [some (.ref 489), some (.ref 473), some (.int ((I 402) 4)), some (.ref (406 + r4)), some (.int (1 : Int32)), some (.int (0 : Int32))] [] [(490, r18.2.1), (491, r18.2.2)] []) (P := (1 : Int32) = 0) ok_X3_passNext rfl q_cn (fun h30 => ?_) (fun h30 => ?_)
          · have hf := q_ip h30 hf
            refine q_blk 7 [] (c' := q_kc (0, r, m, 499, 529, ext, rx, L) I E 61 [some (.ref 489), some (.ref 473), some (.int ((I 402) 4)), some (.ref (406 + r4)), some (.int (1 : Int32)), some (.int (0 : Int32))] [.int (0 : Int32)] [(473, (q_up (I 473) 10 (((I 473) 10) + (1 : Int32)))), (490, r18.2.1), (491, r18.2.2)] []) ok_X3_passNext rfl q_cn ?_
            cases hf
            exact q_kri ok_X3_passNext rfl rfl rfl (Nat.le_of_ble_eq_true rfl) (Nat.le_of_ble_eq_true rfl) ⟨rfl, q_hpe (q_fin [473, 475, 476, 477, 478, 479, 480, 481, 482, 483, 484, 485, 486, 487, 488, 490, 491] rfl) (q_fin [] rfl)⟩
          · have hf := q_in h30 hf
            refine q_blf 1 [] (a := q_kc (0, r, m, 499, 529, ext, rx, L) I E 54 [some (.ref 489), some (.ref 473), some (.int ((I 402) 4)), some (.ref (406 + r4)), some (.int (1 : Int32)), some (.int (0 : Int32))] [] [(490, r18.2.1), (491, r18.2.2)] []) (b := q_kc (0, r, m, 499, 529, ext, rx, L) I E 48 [some (.ref 489), some (.ref 473), some (.int ((I 402) 4)), some (.ref (406 + r4)), some (.int (1 : Int32)), some (.int (0 : Int32))] [] [(490, r18.2.1), (491, r18.2.2)] []) (P := ¬ (0 : Int32) = 0) ok_X3_passNext rfl q_cn (fun h31 => ?_) (fun h31 => ?_)
            · have hf := q_ip h31 hf
              refine q_blk 7 [] (c' := q_kc (0, r, m, 499, 529, ext, rx, L) I E 61 [some (.ref 489), some (.ref 473), some (.int ((I 402) 4)), some (.ref (406 + r4)), some (.int (1 : Int32)), some (.int (0 : Int32))] [.int (0 : Int32)] [(473, (q_up (I 473) 10 (((I 473) 10) + (1 : Int32)))), (490, r18.2.1), (491, r18.2.2)] []) ok_X3_passNext rfl q_cn ?_
              cases hf
              exact q_kri ok_X3_passNext rfl rfl rfl (Nat.le_of_ble_eq_true rfl) (Nat.le_of_ble_eq_true rfl) ⟨rfl, q_hpe (q_fin [473, 475, 476, 477, 478, 479, 480, 481, 482, 483, 484, 485, 486, 487, 488, 490, 491] rfl) (q_fin [] rfl)⟩
            · have hf := q_in h31 hf
              refine q_blk 13 [] (c' := q_kc (0, r, m, 499, 529, ext, rx, L) I E 61 [some (.ref 489), some (.ref 473), some (.int ((I 402) 4)), some (.ref (406 + r4)), some (.int (1 : Int32)), some (.int (0 : Int32))] [.int (0 : Int32)] [(473, (q_up (q_up (I 473) 11 (((I 473) 11) + (1 : Int32))) 10 (((q_up (I 473) 11 (((I 473) 11) + (1 : Int32))) 10) + (1 : Int32)))), (490, r18.2.1), (491, r18.2.2)] []) ok_X3_passNext rfl q_cn ?_
              cases hf
              exact q_kri ok_X3_passNext rfl rfl rfl (Nat.le_of_ble_eq_true rfl) (Nat.le_of_ble_eq_true rfl) ⟨rfl, q_hpe (q_fin [473, 475, 476, 477, 478, 479, 480, 481, 482, 483, 484, 485, 486, 487, 488, 490, 491] rfl) (q_fin [] rfl)⟩
        · have hf := q_in h29 hf
          refine q_blk 3 [] (c' := q_kc (0, r, m, 499, 529, ext, rx, L) I E 38 [some (.ref 489), some (.ref 473), some (.int ((I 402) 4)), some (.ref (406 + r4)), some (.int (1 : Int32)), none] [.ref (406 + r4), .ref 473, .ref 489] [(490, r18.2.1), (491, r18.2.2)] []) ok_X3_passNext rfl q_cn ?_
          refine q_less (ls' := [none, some (.ref 473), none, none, some (.int (1 : Int32)), none]) (q_sb1 (q_sb2 (q_sb1 (q_sb1 (q_sb2 (q_sb1 q_sb0)))))) ?_
          obtain ⟨r32, hr32, hf⟩ := q_bd hf
          refine q_kV (M2 := m_X3_perform) (As := [.ref 473, .ref (406 + r4)]) (b := 489) (v2 := some (.int (q_bz r32.1))) ok_X3_passNext ok_X3_perform cv_X3_perform (ct_X3_perform_489_473_T406 (d := 5) (Nat.le_refl _) hr32) rfl rfl (Or.inl rfl) rfl rfl rfl rfl (Nat.le_trans (Nat.le_of_ble_eq_true rfl) hd) (Nat.le_of_ble_eq_true rfl) (Nat.le_of_ble_eq_true rfl) (Nat.le_of_ble_eq_true rfl) (fun x hx => hx) rfl rfl rfl (pos' := 39) (st' := [.int (q_bz r32.1)]) (lI' := [(473, r32.2.1), (475, r32.2.2.1), (476, r32.2.2.2.1), (477, r32.2.2.2.2.1), (478, r32.2.2.2.2.2.1), (479, r32.2.2.2.2.2.2.1), (480, r32.2.2.2.2.2.2.2.1), (481, r32.2.2.2.2.2.2.2.2.1), (482, r32.2.2.2.2.2.2.2.2.2.1), (483, r32.2.2.2.2.2.2.2.2.2.2.1), (484, r32.2.2.2.2.2.2.2.2.2.2.2.1), (485, r32.2.2.2.2.2.2.2.2.2.2.2.2.1), (486, r32.2.2.2.2.2.2.2.2.2.2.2.2.2.1), (487, r32.2.2.2.2.2.2.2.2.2.2.2.2.2.2.1), (488, r32.2.2.2.2.2.2.2.2.2.2.2.2.2.2.2.1), (490, r32.2.2.2.2.2.2.2.2.2.2.2.2.2.2.2.2.1), (491, r32.2.2.2.2.2.2.2.2.2.2.2.2.2.2.2.2.2)]) (lE' := []) rfl rfl rfl rfl ?_
          refine q_blf 0 [] (a := q_kc (0, r, m, 499, 529, ext, rx, L) I E 42 [none, some (.ref 473), none, none, some (.int (1 : Int32)), none] [] [(473, r32.2.1), (475, r32.2.2.1), (476, r32.2.2.2.1), (477, r32.2.2.2.2.1), (478, r32.2.2.2.2.2.1), (479, r32.2.2.2.2.2.2.1), (480, r32.2.2.2.2.2.2.2.1), (481, r32.2.2.2.2.2.2.2.2.1), (482, r32.2.2.2.2.2.2.2.2.2.1), (483, r32.2.2.2.2.2.2.2.2.2.2.1), (484, r32.2.2.2.2.2.2.2.2.2.2.2.1), (485, r32.2.2.2.2.2.2.2.2.2.2.2.2.1), (486, r32.2.2.2.2.2.2.2.2.2.2.2.2.2.1), (487, r32.2.2.2.2.2.2.2.2.2.2.2.2.2.2.1), (488, r32.2.2.2.2.2.2.2.2.2.2.2.2.2.2.2.1), (490, r32.2.2.2.2.2.2.2.2.2.2.2.2.2.2.2.2.1), (491, r32.2.2.2.2.2.2.2.2.2.2.2.2.2.2.2.2.2)] []) (b := q_kc (0, r, m, 499, 529, ext, rx, L) I E 40 [none, some (.ref 473), none, none, some (.int (1 : Int32)), none] [] [(473, r32.2.1), (475, r32.2.2.1), (476, r32.2.2.2.1), (477, r32.2.2.2.2.1), (478, r32.2.2.2.2.2.1), (479, r32.2.2.2.2.2.2.1), (480, r32.2.2.2.2.2.2.2.1), (481, r32.2.2.2.2.2.2.2.2.1), (482, r32.2.2.2.2.2.2.2.2.2.1), (483, r32.2.2.2.2.2.2.2.2.2.2.1), (484, r32.2.2.2.2.2.2.2.2.2.2.2.1), (485, r32.2.2.2.2.2.2.2.2.2.2.2.2.1), (486, r32.2.2.2.2.2.2.2.2.2.2.2.2.2.1), (487, r32.2.2.2.2.2.2.2.2.2.2.2.2.2.2.1), (488, r32.2.2.2.2.2.2.2.2.2.2.2.2.2.2.2.1), (490, r32.2.2.2.2.2.2.2.2.2.2.2.2.2.2.2.2.1), (491, r32.2.2.2.2.2.2.2.2.2.2.2.2.2.2.2.2.2)] []) (P := (q_bz r32.1) = 0) ok_X3_passNext rfl q_cn (fun h33 => ?_) (fun h33 => ?_)
          · have hf := q_ip h33 hf
            refine q_blf 3 [] (a := q_kc (0, r, m, 499, 529, ext, rx, L) I E 54 [none, some (.ref 473), none, none, some (.int (1 : Int32)), some (.int (0 : Int32))] [] [(473, r32.2.1), (475, r32.2.2.1), (476, r32.2.2.2.1), (477, r32.2.2.2.2.1), (478, r32.2.2.2.2.2.1), (479, r32.2.2.2.2.2.2.1), (480, r32.2.2.2.2.2.2.2.1), (481, r32.2.2.2.2.2.2.2.2.1), (482, r32.2.2.2.2.2.2.2.2.2.1), (483, r32.2.2.2.2.2.2.2.2.2.2.1), (484, r32.2.2.2.2.2.2.2.2.2.2.2.1), (485, r32.2.2.2.2.2.2.2.2.2.2.2.2.1), (486, r32.2.2.2.2.2.2.2.2.2.2.2.2.2.1), (487, r32.2.2.2.2.2.2.2.2.2.2.2.2.2.2.1), (488, r32.2.2.2.2.2.2.2.2.2.2.2.2.2.2.2.1), (490, r32.2.2.2.2.2.2.2.2.2.2.2.2.2.2.2.2.1), (491, r32.2.2.2.2.2.2.2.2.2.2.2.2.2.2.2.2.2)] []) (b := q_kc (0, r, m, 499, 529, ext, rx, L) I E 46 [none, some (.ref 473), none, none, some (.int (1 : Int32)), some (.int (0 : Int32))] [] [(473, r32.2.1), (475, r32.2.2.1), (476, r32.2.2.2.1), (477, r32.2.2.2.2.1), (478, r32.2.2.2.2.2.1), (479, r32.2.2.2.2.2.2.1), (480, r32.2.2.2.2.2.2.2.1), (481, r32.2.2.2.2.2.2.2.2.1), (482, r32.2.2.2.2.2.2.2.2.2.1), (483, r32.2.2.2.2.2.2.2.2.2.2.1), (484, r32.2.2.2.2.2.2.2.2.2.2.2.1), (485, r32.2.2.2.2.2.2.2.2.2.2.2.2.1), (486, r32.2.2.2.2.2.2.2.2.2.2.2.2.2.1), (487, r32.2.2.2.2.2.2.2.2.2.2.2.2.2.2.1), (488, r32.2.2.2.2.2.2.2.2.2.2.2.2.2.2.2.1), (490, r32.2.2.2.2.2.2.2.2.2.2.2.2.2.2.2.2.1), (491, r32.2.2.2.2.2.2.2.2.2.2.2.2.2.2.2.2.2)] []) (P := (1 : Int32) = 0) ok_X3_passNext rfl q_cn (fun h34 => ?_) (fun h34 => ?_)
            · have hf := q_ip h34 hf
              refine q_blk 7 [] (c' := q_kc (0, r, m, 499, 529, ext, rx, L) I E 61 [none, some (.ref 473), none, none, some (.int (1 : Int32)), some (.int (0 : Int32))] [.int (0 : Int32)] [(473, (q_up r32.2.1 10 ((r32.2.1 10) + (1 : Int32)))), (475, r32.2.2.1), (476, r32.2.2.2.1), (477, r32.2.2.2.2.1), (478, r32.2.2.2.2.2.1), (479, r32.2.2.2.2.2.2.1), (480, r32.2.2.2.2.2.2.2.1), (481, r32.2.2.2.2.2.2.2.2.1), (482, r32.2.2.2.2.2.2.2.2.2.1), (483, r32.2.2.2.2.2.2.2.2.2.2.1), (484, r32.2.2.2.2.2.2.2.2.2.2.2.1), (485, r32.2.2.2.2.2.2.2.2.2.2.2.2.1), (486, r32.2.2.2.2.2.2.2.2.2.2.2.2.2.1), (487, r32.2.2.2.2.2.2.2.2.2.2.2.2.2.2.1), (488, r32.2.2.2.2.2.2.2.2.2.2.2.2.2.2.2.1), (490, r32.2.2.2.2.2.2.2.2.2.2.2.2.2.2.2.2.1), (491, r32.2.2.2.2.2.2.2.2.2.2.2.2.2.2.2.2.2)] []) ok_X3_passNext rfl q_cn ?_
              cases hf
              exact q_kri ok_X3_passNext rfl rfl rfl (Nat.le_of_ble_eq_true rfl) (Nat.le_of_ble_eq_true rfl) ⟨rfl, q_hpe (q_fin [473, 475, 476, 477, 478, 479, 480, 481, 482, 483, 484, 485, 486, 487, 488, 490, 491] rfl) (q_fin [] rfl)⟩
            · have hf := q_in h34 hf
              refine q_blf 1 [] (a := q_kc (0, r, m, 499, 529, ext, rx, L) I E 54 [none, some (.ref 473), none, none, some (.int (1 : Int32)), some (.int (0 : Int32))] [] [(473, r32.2.1), (475, r32.2.2.1), (476, r32.2.2.2.1), (477, r32.2.2.2.2.1), (478, r32.2.2.2.2.2.1), (479, r32.2.2.2.2.2.2.1), (480, r32.2.2.2.2.2.2.2.1), (481, r32.2.2.2.2.2.2.2.2.1), (482, r32.2.2.2.2.2.2.2.2.2.1), (483, r32.2.2.2.2.2.2.2.2.2.2.1), (484, r32.2.2.2.2.2.2.2.2.2.2.2.1), (485, r32.2.2.2.2.2.2.2.2.2.2.2.2.1), (486, r32.2.2.2.2.2.2.2.2.2.2.2.2.2.1), (487, r32.2.2.2.2.2.2.2.2.2.2.2.2.2.2.1), (488, r32.2.2.2.2.2.2.2.2.2.2.2.2.2.2.2.1), (490, r32.2.2.2.2.2.2.2.2.2.2.2.2.2.2.2.2.1), (491, r32.2.2.2.2.2.2.2.2.2.2.2.2.2.2.2.2.2)] []) (b := q_kc (0, r, m, 499, 529, ext, rx, L) I E 48 [none, some (.ref 473), none, none, some (.int (1 : Int32)), some (.int (0 : Int32))] [] [(473, r32.2.1), (475, r32.2.2.1), (476, r32.2.2.2.1), (477, r32.2.2.2.2.1), (478, r32.2.2.2.2.2.1), (479, r32.2.2.2.2.2.2.1), (480, r32.2.2.2.2.2.2.2.1), (481, r32.2.2.2.2.2.2.2.2.1), (482, r32.2.2.2.2.2.2.2.2.2.1), (483, r32.2.2.2.2.2.2.2.2.2.2.1), (484, r32.2.2.2.2.2.2.2.2.2.2.2.1), (485, r32.2.2.2.2.2.2.2.2.2.2.2.2.1), (486, r32.2.2.2.2.2.2.2.2.2.2.2.2.2.1), (487, r32.2.2.2.2.2.2.2.2.2.2.2.2.2.2.1), (488, r32.2.2.2.2.2.2.2.2.2.2.2.2.2.2.2.1), (490, r32.2.2.2.2.2.2.2.2.2.2.2.2.2.2.2.2.1), (491, r32.2.2.2.2.2.2.2.2.2.2.2.2.2.2.2.2.2)] []) (P := ¬ (0 : Int32) = 0) ok_X3_passNext rfl q_cn (fun h35 => ?_) (fun h35 => ?_)
              · have hf := q_ip h35 hf
                refine q_blk 7 [] (c' := q_kc (0, r, m, 499, 529, ext, rx, L) I E 61 [none, some (.ref 473), none, none, some (.int (1 : Int32)), some (.int (0 : Int32))] [.int (0 : Int32)] [(473, (q_up r32.2.1 10 ((r32.2.1 10) + (1 : Int32)))), (475, r32.2.2.1), (476, r32.2.2.2.1), (477, r32.2.2.2.2.1), (478, r32.2.2.2.2.2.1), (479, r32.2.2.2.2.2.2.1), (480, r32.2.2.2.2.2.2.2.1), (481, r32.2.2.2.2.2.2.2.2.1), (482, r32.2.2.2.2.2.2.2.2.2.1), (483, r32.2.2.2.2.2.2.2.2.2.2.1), (484, r32.2.2.2.2.2.2.2.2.2.2.2.1), (485, r32.2.2.2.2.2.2.2.2.2.2.2.2.1), (486, r32.2.2.2.2.2.2.2.2.2.2.2.2.2.1), (487, r32.2.2.2.2.2.2.2.2.2.2.2.2.2.2.1), (488, r32.2.2.2.2.2.2.2.2.2.2.2.2.2.2.2.1), (490, r32.2.2.2.2.2.2.2.2.2.2.2.2.2.2.2.2.1), (491, r32.2.2.2.2.2.2.2.2.2.2.2.2.2.2.2.2.2)] []) ok_X3_passNext rfl q_cn ?_
                cases hf
                exact q_kri ok_X3_passNext rfl rfl rfl (Nat.le_of_ble_eq_true rfl) (Nat.le_of_ble_eq_true rfl) ⟨rfl, q_hpe (q_fin [473, 475, 476, 477, 478, 479, 480, 481, 482, 483, 484, 485, 486, 487, 488, 490, 491] rfl) (q_fin [] rfl)⟩
              · have hf := q_in h35 hf
                refine q_blk 13 [] (c' := q_kc (0, r, m, 499, 529, ext, rx, L) I E 61 [none, some (.ref 473), none, none, some (.int (1 : Int32)), some (.int (0 : Int32))] [.int (0 : Int32)] [(473, (q_up (q_up r32.2.1 11 ((r32.2.1 11) + (1 : Int32))) 10 (((q_up r32.2.1 11 ((r32.2.1 11) + (1 : Int32))) 10) + (1 : Int32)))), (475, r32.2.2.1), (476, r32.2.2.2.1), (477, r32.2.2.2.2.1), (478, r32.2.2.2.2.2.1), (479, r32.2.2.2.2.2.2.1), (480, r32.2.2.2.2.2.2.2.1), (481, r32.2.2.2.2.2.2.2.2.1), (482, r32.2.2.2.2.2.2.2.2.2.1), (483, r32.2.2.2.2.2.2.2.2.2.2.1), (484, r32.2.2.2.2.2.2.2.2.2.2.2.1), (485, r32.2.2.2.2.2.2.2.2.2.2.2.2.1), (486, r32.2.2.2.2.2.2.2.2.2.2.2.2.2.1), (487, r32.2.2.2.2.2.2.2.2.2.2.2.2.2.2.1), (488, r32.2.2.2.2.2.2.2.2.2.2.2.2.2.2.2.1), (490, r32.2.2.2.2.2.2.2.2.2.2.2.2.2.2.2.2.1), (491, r32.2.2.2.2.2.2.2.2.2.2.2.2.2.2.2.2.2)] []) ok_X3_passNext rfl q_cn ?_
                cases hf
                exact q_kri ok_X3_passNext rfl rfl rfl (Nat.le_of_ble_eq_true rfl) (Nat.le_of_ble_eq_true rfl) ⟨rfl, q_hpe (q_fin [473, 475, 476, 477, 478, 479, 480, 481, 482, 483, 484, 485, 486, 487, 488, 490, 491] rfl) (q_fin [] rfl)⟩
          · have hf := q_in h33 hf
            refine q_blf 4 [] (a := q_kc (0, r, m, 499, 529, ext, rx, L) I E 54 [none, some (.ref 473), none, none, some (.int (1 : Int32)), some (.int (1 : Int32))] [] [(473, r32.2.1), (475, r32.2.2.1), (476, r32.2.2.2.1), (477, r32.2.2.2.2.1), (478, r32.2.2.2.2.2.1), (479, r32.2.2.2.2.2.2.1), (480, r32.2.2.2.2.2.2.2.1), (481, r32.2.2.2.2.2.2.2.2.1), (482, r32.2.2.2.2.2.2.2.2.2.1), (483, r32.2.2.2.2.2.2.2.2.2.2.1), (484, r32.2.2.2.2.2.2.2.2.2.2.2.1), (485, r32.2.2.2.2.2.2.2.2.2.2.2.2.1), (486, r32.2.2.2.2.2.2.2.2.2.2.2.2.2.1), (487, r32.2.2.2.2.2.2.2.2.2.2.2.2.2.2.1), (488, r32.2.2.2.2.2.2.2.2.2.2.2.2.2.2.2.1), (490, r32.2.2.2.2.2.2.2.2.2.2.2.2.2.2.2.2.1), (491, r32.2.2.2.2.2.2.2.2.2.2.2.2.2.2.2.2.2)] []) (b := q_kc (0, r, m, 499, 529, ext, rx, L) I E 46 [none, some (.ref 473), none, none, some (.int (1 : Int32)), some (.int (1 : Int32))] [] [(473, r32.2.1), (475, r32.2.2.1), (476, r32.2.2.2.1), (477, r32.2.2.2.2.1), (478, r32.2.2.2.2.2.1), (479, r32.2.2.2.2.2.2.1), (480, r32.2.2.2.2.2.2.2.1), (481, r32.2.2.2.2.2.2.2.2.1), (482, r32.2.2.2.2.2.2.2.2.2.1), (483, r32.2.2.2.2.2.2.2.2.2.2.1), (484, r32.2.2.2.2.2.2.2.2.2.2.2.1), (485, r32.2.2.2.2.2.2.2.2.2.2.2.2.1), (486, r32.2.2.2.2.2.2.2.2.2.2.2.2.2.1), (487, r32.2.2.2.2.2.2.2.2.2.2.2.2.2.2.1), (488, r32.2.2.2.2.2.2.2.2.2.2.2.2.2.2.2.1), (490, r32.2.2.2.2.2.2.2.2.2.2.2.2.2.2.2.2.1), (491, r32.2.2.2.2.2.2.2.2.2.2.2.2.2.2.2.2.2)] []) (P := (1 : Int32) = 0) ok_X3_passNext rfl q_cn (fun h36 => ?_) (fun h36 => ?_)
            · have hf := q_ip h36 hf
              refine q_blk 7 [] (c' := q_kc (0, r, m, 499, 529, ext, rx, L) I E 61 [none, some (.ref 473), none, none, some (.int (1 : Int32)), some (.int (1 : Int32))] [.int (1 : Int32)] [(473, (q_up r32.2.1 10 ((r32.2.1 10) + (1 : Int32)))), (475, r32.2.2.1), (476, r32.2.2.2.1), (477, r32.2.2.2.2.1), (478, r32.2.2.2.2.2.1), (479, r32.2.2.2.2.2.2.1), (480, r32.2.2.2.2.2.2.2.1), (481, r32.2.2.2.2.2.2.2.2.1), (482, r32.2.2.2.2.2.2.2.2.2.1), (483, r32.2.2.2.2.2.2.2.2.2.2.1), (484, r32.2.2.2.2.2.2.2.2.2.2.2.1), (485, r32.2.2.2.2.2.2.2.2.2.2.2.2.1), (486, r32.2.2.2.2.2.2.2.2.2.2.2.2.2.1), (487, r32.2.2.2.2.2.2.2.2.2.2.2.2.2.2.1), (488, r32.2.2.2.2.2.2.2.2.2.2.2.2.2.2.2.1), (490, r32.2.2.2.2.2.2.2.2.2.2.2.2.2.2.2.2.1), (491, r32.2.2.2.2.2.2.2.2.2.2.2.2.2.2.2.2.2)] []) ok_X3_passNext rfl q_cn ?_
              cases hf
              exact q_kri ok_X3_passNext rfl rfl rfl (Nat.le_of_ble_eq_true rfl) (Nat.le_of_ble_eq_true rfl) ⟨rfl, q_hpe (q_fin [473, 475, 476, 477, 478, 479, 480, 481, 482, 483, 484, 485, 486, 487, 488, 490, 491] rfl) (q_fin [] rfl)⟩
            · have hf := q_in h36 hf
              refine q_blf 1 [] (a := q_kc (0, r, m, 499, 529, ext, rx, L) I E 54 [none, some (.ref 473), none, none, some (.int (1 : Int32)), some (.int (1 : Int32))] [] [(473, r32.2.1), (475, r32.2.2.1), (476, r32.2.2.2.1), (477, r32.2.2.2.2.1), (478, r32.2.2.2.2.2.1), (479, r32.2.2.2.2.2.2.1), (480, r32.2.2.2.2.2.2.2.1), (481, r32.2.2.2.2.2.2.2.2.1), (482, r32.2.2.2.2.2.2.2.2.2.1), (483, r32.2.2.2.2.2.2.2.2.2.2.1), (484, r32.2.2.2.2.2.2.2.2.2.2.2.1), (485, r32.2.2.2.2.2.2.2.2.2.2.2.2.1), (486, r32.2.2.2.2.2.2.2.2.2.2.2.2.2.1), (487, r32.2.2.2.2.2.2.2.2.2.2.2.2.2.2.1), (488, r32.2.2.2.2.2.2.2.2.2.2.2.2.2.2.2.1), (490, r32.2.2.2.2.2.2.2.2.2.2.2.2.2.2.2.2.1), (491, r32.2.2.2.2.2.2.2.2.2.2.2.2.2.2.2.2.2)] []) (b := q_kc (0, r, m, 499, 529, ext, rx, L) I E 48 [none, some (.ref 473), none, none, some (.int (1 : Int32)), some (.int (1 : Int32))] [] [(473, r32.2.1), (475, r32.2.2.1), (476, r32.2.2.2.1), (477, r32.2.2.2.2.1), (478, r32.2.2.2.2.2.1), (479, r32.2.2.2.2.2.2.1), (480, r32.2.2.2.2.2.2.2.1), (481, r32.2.2.2.2.2.2.2.2.1), (482, r32.2.2.2.2.2.2.2.2.2.1), (483, r32.2.2.2.2.2.2.2.2.2.2.1), (484, r32.2.2.2.2.2.2.2.2.2.2.2.1), (485, r32.2.2.2.2.2.2.2.2.2.2.2.2.1), (486, r32.2.2.2.2.2.2.2.2.2.2.2.2.2.1), (487, r32.2.2.2.2.2.2.2.2.2.2.2.2.2.2.1), (488, r32.2.2.2.2.2.2.2.2.2.2.2.2.2.2.2.1), (490, r32.2.2.2.2.2.2.2.2.2.2.2.2.2.2.2.2.1), (491, r32.2.2.2.2.2.2.2.2.2.2.2.2.2.2.2.2.2)] []) (P := ¬ (1 : Int32) = 0) ok_X3_passNext rfl q_cn (fun h37 => ?_) (fun h37 => ?_)
              · have hf := q_ip h37 hf
                refine q_blk 7 [] (c' := q_kc (0, r, m, 499, 529, ext, rx, L) I E 61 [none, some (.ref 473), none, none, some (.int (1 : Int32)), some (.int (1 : Int32))] [.int (1 : Int32)] [(473, (q_up r32.2.1 10 ((r32.2.1 10) + (1 : Int32)))), (475, r32.2.2.1), (476, r32.2.2.2.1), (477, r32.2.2.2.2.1), (478, r32.2.2.2.2.2.1), (479, r32.2.2.2.2.2.2.1), (480, r32.2.2.2.2.2.2.2.1), (481, r32.2.2.2.2.2.2.2.2.1), (482, r32.2.2.2.2.2.2.2.2.2.1), (483, r32.2.2.2.2.2.2.2.2.2.2.1), (484, r32.2.2.2.2.2.2.2.2.2.2.2.1), (485, r32.2.2.2.2.2.2.2.2.2.2.2.2.1), (486, r32.2.2.2.2.2.2.2.2.2.2.2.2.2.1), (487, r32.2.2.2.2.2.2.2.2.2.2.2.2.2.2.1), (488, r32.2.2.2.2.2.2.2.2.2.2.2.2.2.2.2.1), (490, r32.2.2.2.2.2.2.2.2.2.2.2.2.2.2.2.2.1), (491, r32.2.2.2.2.2.2.2.2.2.2.2.2.2.2.2.2.2)] []) ok_X3_passNext rfl q_cn ?_
                cases hf
                exact q_kri ok_X3_passNext rfl rfl rfl (Nat.le_of_ble_eq_true rfl) (Nat.le_of_ble_eq_true rfl) ⟨rfl, q_hpe (q_fin [473, 475, 476, 477, 478, 479, 480, 481, 482, 483, 484, 485, 486, 487, 488, 490, 491] rfl) (q_fin [] rfl)⟩
              · have hf := q_in h37 hf
                refine q_blk 13 [] (c' := q_kc (0, r, m, 499, 529, ext, rx, L) I E 61 [none, some (.ref 473), none, none, some (.int (1 : Int32)), some (.int (1 : Int32))] [.int (1 : Int32)] [(473, (q_up (q_up r32.2.1 11 ((r32.2.1 11) + (1 : Int32))) 10 (((q_up r32.2.1 11 ((r32.2.1 11) + (1 : Int32))) 10) + (1 : Int32)))), (475, r32.2.2.1), (476, r32.2.2.2.1), (477, r32.2.2.2.2.1), (478, r32.2.2.2.2.2.1), (479, r32.2.2.2.2.2.2.1), (480, r32.2.2.2.2.2.2.2.1), (481, r32.2.2.2.2.2.2.2.2.1), (482, r32.2.2.2.2.2.2.2.2.2.1), (483, r32.2.2.2.2.2.2.2.2.2.2.1), (484, r32.2.2.2.2.2.2.2.2.2.2.2.1), (485, r32.2.2.2.2.2.2.2.2.2.2.2.2.1), (486, r32.2.2.2.2.2.2.2.2.2.2.2.2.2.1), (487, r32.2.2.2.2.2.2.2.2.2.2.2.2.2.2.1), (488, r32.2.2.2.2.2.2.2.2.2.2.2.2.2.2.2.1), (490, r32.2.2.2.2.2.2.2.2.2.2.2.2.2.2.2.2.1), (491, r32.2.2.2.2.2.2.2.2.2.2.2.2.2.2.2.2.2)] []) ok_X3_passNext rfl q_cn ?_
                cases hf
                exact q_kri ok_X3_passNext rfl rfl rfl (Nat.le_of_ble_eq_true rfl) (Nat.le_of_ble_eq_true rfl) ⟨rfl, q_hpe (q_fin [473, 475, 476, 477, 478, 479, 480, 481, 482, 483, 484, 485, 486, 487, 488, 490, 491] rfl) (q_fin [] rfl)⟩
  · have hf := q_in h1 hf
    refine q_blk 1 [] (c' := q_kc (0, r, m, 499, 529, ext, rx, L) I E 7 [some (.ref 489), some (.ref 473), some (.int ((I 402) 4)), none, none, none] [.int (0 : Int32)] [] []) ok_X3_passNext rfl q_cn ?_
    cases hf
    exact q_kri ok_X3_passNext rfl rfl rfl (Nat.le_of_ble_eq_true rfl) (Nat.le_of_ble_eq_true rfl) ⟨rfl, q_hpe (q_fin [473, 475, 476, 477, 478, 479, 480, 481, 482, 483, 484, 485, 486, 487, 488, 490, 491] rfl) (q_fin [] rfl)⟩
set_option maxHeartbeats 4000000 in
theorem lp_X3_goOn_L4_489_473 {g : q_G} {d mc ms : Nat} {h0 : q_H} {Q : (Option Value ⊕ String) → q_H → Prop} {k n : Nat} {r : Nat} {m : Nat} {ext : Nat → q_Sh} {rx : Nat → Nat → Option Nat} {L : Nat → Nat → Int64} (hd : 7 ≤ d) (hk : k ≤ mc) (hn : n ≤ ms)  {v2 : Int32} : ∀ (fu : Nat) {I : Nat → Nat → Int32} {E : Nat → Nat → Option Nat} {v3 : Int32} {v4 : Int32} {r0 : Int32 × (Nat → Int32) × (Nat → Int32) × (Nat → Int32) × (Nat → Int32) × (Nat → Int32) × (Nat → Int32) × (Nat → Int32) × (Nat → Int32) × (Nat → Int32) × (Nat → Int32) × (Nat → Int32) × (Nat → Int32) × (Nat → Int32) × (Nat → Int32) × (Nat → Int32) × (Nat → Int32) × (Nat → Int32)} (hf : f_X3_goOn_L4 (I 402) (I 405) (E 404) (fun j => I (406 + j)) (fun j => E (406 + j)) v2 fu (I 473) (I 475) (I 476) (I 477) (I 478) (I 479) (I 480) (I 481) (I 482) (I 483) (I 484) (I 485) (I 486) (I 487) (I 488) (I 490) (I 491) v3 v4 = some r0) (hK0 : q_J g m_X3_goOn d mc ms h0 [487, 488] Q k n (q_kc (0, r, m, 499, 529, ext, rx, L) I E 14 [none, none, none, some (.int r0.1), none] [] [(473, r0.2.1), (475, r0.2.2.1), (476, r0.2.2.2.1), (477, r0.2.2.2.2.1), (478, r0.2.2.2.2.2.1), (479, r0.2.2.2.2.2.2.1), (480, r0.2.2.2.2.2.2.2.1), (481, r0.2.2.2.2.2.2.2.2.1), (482, r0.2.2.2.2.2.2.2.2.2.1), (483, r0.2.2.2.2.2.2.2.2.2.2.1), (484, r0.2.2.2.2.2.2.2.2.2.2.2.1), (485, r0.2.2.2.2.2.2.2.2.2.2.2.2.1), (486, r0.2.2.2.2.2.2.2.2.2.2.2.2.2.1), (487, r0.2.2.2.2.2.2.2.2.2.2.2.2.2.2.1), (488, r0.2.2.2.2.2.2.2.2.2.2.2.2.2.2.2.1), (490, r0.2.2.2.2.2.2.2.2.2.2.2.2.2.2.2.2.1), (491, r0.2.2.2.2.2.2.2.2.2.2.2.2.2.2.2.2.2)] [])), q_J g m_X3_goOn d mc ms h0 [487, 488] Q k n (4, [some (.ref 489), some (.ref 473), some (.int v2), some (.int v3), some (.int v4)], [], q_hp (0, r, m, 499, 529, ext, rx, L) I E) := by
  intro fu
  induction fu with
  | zero =>
    intro I E v3 v4 r0 hf hK0
    rw [f_X3_goOn_L4] at hf
    cases hf
  | succ fu ih =>
    intro I E v3 v4 r0 hf hK0
    rw [f_X3_goOn_L4] at hf
    change q_J g m_X3_goOn d mc ms h0 [487, 488] Q k n (q_kc (0, r, m, 499, 529, ext, rx, L) I E 4 [some (.ref 489), some (.ref 473), some (.int v2), some (.int v3), some (.int v4)] [] [] [])
    refine q_blf 2 [] (a := q_kc (0, r, m, 499, 529, ext, rx, L) I E 14 [some (.ref 489), some (.ref 473), some (.int v2), some (.int v3), some (.int v4)] [] [] []) (b := q_kc (0, r, m, 499, 529, ext, rx, L) I E 7 [some (.ref 489), some (.ref 473), some (.int v2), some (.int v3), some (.int v4)] [] [] []) (P := v2 ≤ v4) ok_X3_goOn rfl q_cn (fun h1 => ?_) (fun h1 => ?_)
    · have hf := q_ip h1 hf
      refine q_less (ls' := [none, none, none, some (.int v3), none]) (q_sb1 (q_sb1 (q_sb1 (q_sb2 (q_sb1 q_sb0))))) ?_
      cases hf
      exact q_Jpad [473, 475, 476, 477, 478, 479, 480, 481, 482, 483, 484, 485, 486, 487, 488, 490, 491] [] rfl rfl hK0
    · have hf := q_in h1 hf
      refine q_blk 2 [] (c' := q_kc (0, r, m, 499, 529, ext, rx, L) I E 9 [some (.ref 489), some (.ref 473), some (.int v2), some (.int v3), some (.int v4)] [.ref 473, .ref 489] [] []) ok_X3_goOn rfl q_cn ?_
      obtain ⟨r2, hr2, hf⟩ := q_bd hf
      refine q_kV (M2 := m_X3_passNext) (As := [.ref 473]) (b := 489) (v2 := some (.int (q_bz r2.1))) ok_X3_goOn ok_X3_passNext cv_X3_passNext (ct_X3_passNext_489_473 (d := 6) (Nat.le_refl _) hr2) rfl rfl (Or.inl rfl) rfl rfl rfl rfl (Nat.le_trans (Nat.le_of_ble_eq_true rfl) hd) hk hn (Nat.le_of_ble_eq_true rfl) (fun x hx => hx) rfl rfl rfl (pos' := 10) (st' := [.int (q_bz r2.1)]) (lI' := [(473, r2.2.1), (475, r2.2.2.1), (476, r2.2.2.2.1), (477, r2.2.2.2.2.1), (478, r2.2.2.2.2.2.1), (479, r2.2.2.2.2.2.2.1), (480, r2.2.2.2.2.2.2.2.1), (481, r2.2.2.2.2.2.2.2.2.1), (482, r2.2.2.2.2.2.2.2.2.2.1), (483, r2.2.2.2.2.2.2.2.2.2.2.1), (484, r2.2.2.2.2.2.2.2.2.2.2.2.1), (485, r2.2.2.2.2.2.2.2.2.2.2.2.2.1), (486, r2.2.2.2.2.2.2.2.2.2.2.2.2.2.1), (487, r2.2.2.2.2.2.2.2.2.2.2.2.2.2.2.1), (488, r2.2.2.2.2.2.2.2.2.2.2.2.2.2.2.2.1), (490, r2.2.2.2.2.2.2.2.2.2.2.2.2.2.2.2.2.1), (491, r2.2.2.2.2.2.2.2.2.2.2.2.2.2.2.2.2.2)]) (lE' := []) rfl rfl rfl rfl ?_
      refine q_blf 0 [] (a := q_kc (0, r, m, 499, 529, ext, rx, L) I E 12 [some (.ref 489), some (.ref 473), some (.int v2), some (.int v3), some (.int v4)] [] [(473, r2.2.1), (475, r2.2.2.1), (476, r2.2.2.2.1), (477, r2.2.2.2.2.1), (478, r2.2.2.2.2.2.1), (479, r2.2.2.2.2.2.2.1), (480, r2.2.2.2.2.2.2.2.1), (481, r2.2.2.2.2.2.2.2.2.1), (482, r2.2.2.2.2.2.2.2.2.2.1), (483, r2.2.2.2.2.2.2.2.2.2.2.1), (484, r2.2.2.2.2.2.2.2.2.2.2.2.1), (485, r2.2.2.2.2.2.2.2.2.2.2.2.2.1), (486, r2.2.2.2.2.2.2.2.2.2.2.2.2.2.1), (487, r2.2.2.2.2.2.2.2.2.2.2.2.2.2.2.1), (488, r2.2.2.2.2.2.2.2.2.2.2.2.2.2.2.2.1), (490, r2.2.2.2.2.2.2.2.2.2.2.2.2.2.2.2.2.1), (491, r2.2.2.2.2.2.2.2.2.2.2.2.2.2.2.2.2.2)] []) (b := q_kc (0, r, m, 499, 529, ext, rx, L) I E 11 [some (.ref 489), some (.ref 473), some (.int v2), some (.int v3), some (.int v4)] [] [(473, r2.2.1), (475, r2.2.2.1), (476, r2.2.2.2.1), (477, r2.2.2.2.2.1), (478, r2.2.2.2.2.2.1), (479, r2.2.2.2.2.2.2.1), (480, r2.2.2.2.2.2.2.2.1), (481, r2.2.2.2.2.2.2.2.2.1), (482, r2.2.2.2.2.2.2.2.2.2.1), (483, r2.2.2.2.2.2.2.2.2.2.2.1), (484, r2.2.2.2.2.2.2.2.2.2.2.2.1), (485, r2.2.2.2.2.2.2.2.2.2.2.2.2.1), (486, r2.2.2.2.2.2.2.2.2.2.2.2.2.2.1), (487, r2.2.2.2.2.2.2.2.2.2.2.2.2.2.2.1), (488, r2.2.2.2.2.2.2.2.2.2.2.2.2.2.2.2.1), (490, r2.2.2.2.2.2.2.2.2.2.2.2.2.2.2.2.2.1), (491, r2.2.2.2.2.2.2.2.2.2.2.2.2.2.2.2.2.2)] []) (P := (q_bz r2.1) = 0) ok_X3_goOn rfl q_cn (fun h3 => ?_) (fun h3 => ?_)
      · have hf := q_ip h3 hf
        refine q_blk 2 [] (c' := q_kc (0, r, m, 499, 529, ext, rx, L) I E 4 [some (.ref 489), some (.ref 473), some (.int v2), some (.int v3), some (.int (v4 + 1))] [] [(473, r2.2.1), (475, r2.2.2.1), (476, r2.2.2.2.1), (477, r2.2.2.2.2.1), (478, r2.2.2.2.2.2.1), (479, r2.2.2.2.2.2.2.1), (480, r2.2.2.2.2.2.2.2.1), (481, r2.2.2.2.2.2.2.2.2.1), (482, r2.2.2.2.2.2.2.2.2.2.1), (483, r2.2.2.2.2.2.2.2.2.2.2.1), (484, r2.2.2.2.2.2.2.2.2.2.2.2.1), (485, r2.2.2.2.2.2.2.2.2.2.2.2.2.1), (486, r2.2.2.2.2.2.2.2.2.2.2.2.2.2.1), (487, r2.2.2.2.2.2.2.2.2.2.2.2.2.2.2.1), (488, r2.2.2.2.2.2.2.2.2.2.2.2.2.2.2.2.1), (490, r2.2.2.2.2.2.2.2.2.2.2.2.2.2.2.2.2.1), (491, r2.2.2.2.2.2.2.2.2.2.2.2.2.2.2.2.2.2)] []) ok_X3_goOn rfl q_cn ?_
        exact ih (I := q_ws I [(473, r2.2.1), (475, r2.2.2.1), (476, r2.2.2.2.1), (477, r2.2.2.2.2.1), (478, r2.2.2.2.2.2.1), (479, r2.2.2.2.2.2.2.1), (480, r2.2.2.2.2.2.2.2.1), (481, r2.2.2.2.2.2.2.2.2.1), (482, r2.2.2.2.2.2.2.2.2.2.1), (483, r2.2.2.2.2.2.2.2.2.2.2.1), (484, r2.2.2.2.2.2.2.2.2.2.2.2.1), (485, r2.2.2.2.2.2.2.2.2.2.2.2.2.1), (486, r2.2.2.2.2.2.2.2.2.2.2.2.2.2.1), (487, r2.2.2.2.2.2.2.2.2.2.2.2.2.2.2.1), (488, r2.2.2.2.2.2.2.2.2.2.2.2.2.2.2.2.1), (490, r2.2.2.2.2.2.2.2.2.2.2.2.2.2.2.2.2.1), (491, r2.2.2.2.2.2.2.2.2.2.2.2.2.2.2.2.2.2)]) (E := q_ws E []) hf (q_Jmrg rfl rfl hK0)
      · have hf := q_in h3 hf
        refine q_blk 3 [] (c' := q_kc (0, r, m, 499, 529, ext, rx, L) I E 4 [some (.ref 489), some (.ref 473), some (.int v2), some (.int (v3 + 1)), some (.int (v4 + 1))] [] [(473, r2.2.1), (475, r2.2.2.1), (476, r2.2.2.2.1), (477, r2.2.2.2.2.1), (478, r2.2.2.2.2.2.1), (479, r2.2.2.2.2.2.2.1), (480, r2.2.2.2.2.2.2.2.1), (481, r2.2.2.2.2.2.2.2.2.1), (482, r2.2.2.2.2.2.2.2.2.2.1), (483, r2.2.2.2.2.2.2.2.2.2.2.1), (484, r2.2.2.2.2.2.2.2.2.2.2.2.1), (485, r2.2.2.2.2.2.2.2.2.2.2.2.2.1), (486, r2.2.2.2.2.2.2.2.2.2.2.2.2.2.1), (487, r2.2.2.2.2.2.2.2.2.2.2.2.2.2.2.1), (488, r2.2.2.2.2.2.2.2.2.2.2.2.2.2.2.2.1), (490, r2.2.2.2.2.2.2.2.2.2.2.2.2.2.2.2.2.1), (491, r2.2.2.2.2.2.2.2.2.2.2.2.2.2.2.2.2.2)] []) ok_X3_goOn rfl q_cn ?_
        exact ih (I := q_ws I [(473, r2.2.1), (475, r2.2.2.1), (476, r2.2.2.2.1), (477, r2.2.2.2.2.1), (478, r2.2.2.2.2.2.1), (479, r2.2.2.2.2.2.2.1), (480, r2.2.2.2.2.2.2.2.1), (481, r2.2.2.2.2.2.2.2.2.1), (482, r2.2.2.2.2.2.2.2.2.2.1), (483, r2.2.2.2.2.2.2.2.2.2.2.1), (484, r2.2.2.2.2.2.2.2.2.2.2.2.1), (485, r2.2.2.2.2.2.2.2.2.2.2.2.2.1), (486, r2.2.2.2.2.2.2.2.2.2.2.2.2.2.1), (487, r2.2.2.2.2.2.2.2.2.2.2.2.2.2.2.1), (488, r2.2.2.2.2.2.2.2.2.2.2.2.2.2.2.2.1), (490, r2.2.2.2.2.2.2.2.2.2.2.2.2.2.2.2.2.1), (491, r2.2.2.2.2.2.2.2.2.2.2.2.2.2.2.2.2.2)]) (E := q_ws E []) hf (q_Jmrg rfl rfl hK0)
set_option maxHeartbeats 4000000 in
theorem ct_X3_goOn_489_473 {g : q_G} {r : Nat} {m : Nat} {ext : Nat → q_Sh} {rx : Nat → Nat → Option Nat} {L : Nat → Nat → Int64} {d : Nat} (hd : 7 ≤ d)  {I : Nat → Nat → Int32} {E : Nat → Nat → Option Nat} {x2 : Int32} {r0 : Int32 × (Nat → Int32) × (Nat → Int32) × (Nat → Int32) × (Nat → Int32) × (Nat → Int32) × (Nat → Int32) × (Nat → Int32) × (Nat → Int32) × (Nat → Int32) × (Nat → Int32) × (Nat → Int32) × (Nat → Int32) × (Nat → Int32) × (Nat → Int32) × (Nat → Int32) × (Nat → Int32) × (Nat → Int32)} (hf : f_X3_goOn (I 402) (I 405) (I 473) (I 475) (I 476) (I 477) (I 478) (I 479) (I 480) (I 481) (I 482) (I 483) (I 484) (I 485) (I 486) (I 487) (I 488) (I 490) (I 491) (E 404) (fun j => I (406 + j)) (fun j => E (406 + j)) x2 = some r0) : q_Ct g m_X3_goOn d 0 0 [487, 488] [.ref 489, .ref 473, .int x2] (q_hp (0, r, m, 499, 529, ext, rx, L) I E) (fun o h' => o = .inl (some (.int r0.1)) ∧ h' = q_hp (0, r, m, 499, 529, ext, rx, L) (q_ws I [(473, r0.2.1), (475, r0.2.2.1), (476, r0.2.2.2.1), (477, r0.2.2.2.2.1), (478, r0.2.2.2.2.2.1), (479, r0.2.2.2.2.2.2.1), (480, r0.2.2.2.2.2.2.2.1), (481, r0.2.2.2.2.2.2.2.2.1), (482, r0.2.2.2.2.2.2.2.2.2.1), (483, r0.2.2.2.2.2.2.2.2.2.2.1), (484, r0.2.2.2.2.2.2.2.2.2.2.2.1), (485, r0.2.2.2.2.2.2.2.2.2.2.2.2.1), (486, r0.2.2.2.2.2.2.2.2.2.2.2.2.2.1), (487, r0.2.2.2.2.2.2.2.2.2.2.2.2.2.2.1), (488, r0.2.2.2.2.2.2.2.2.2.2.2.2.2.2.2.1), (490, r0.2.2.2.2.2.2.2.2.2.2.2.2.2.2.2.2.1), (491, r0.2.2.2.2.2.2.2.2.2.2.2.2.2.2.2.2.2)]) (q_ws E [])) := by
  rw [f_X3_goOn] at hf
  refine q_Ct_of ok_X3_goOn (Nat.le_of_ble_eq_true rfl) ?_ _ rfl rfl
  change q_J g m_X3_goOn d 0 0 _ [487, 488] _ 0 0 (q_kc (0, r, m, 499, 529, ext, rx, L) I E 0 [some (.ref 489), some (.ref 473), some (.int x2), none, none] [] [] [])
  refine q_blk 4 [] (c' := q_kc (0, r, m, 499, 529, ext, rx, L) I E 4 [some (.ref 489), some (.ref 473), some (.int x2), some (.int (0 : Int32)), some (.int (0 : Int32))] [] [] []) ok_X3_goOn rfl q_cn ?_
  obtain ⟨r4, hr4, hf⟩ := q_bd hf
  refine lp_X3_goOn_L4_489_473 (I := q_ws I []) (E := q_ws E []) hd (Nat.le_of_ble_eq_true rfl) (Nat.le_of_ble_eq_true rfl) 4096 hr4 ?_
  refine q_Jmrg (lI' := [(473, r4.2.1), (475, r4.2.2.1), (476, r4.2.2.2.1), (477, r4.2.2.2.2.1), (478, r4.2.2.2.2.2.1), (479, r4.2.2.2.2.2.2.1), (480, r4.2.2.2.2.2.2.2.1), (481, r4.2.2.2.2.2.2.2.2.1), (482, r4.2.2.2.2.2.2.2.2.2.1), (483, r4.2.2.2.2.2.2.2.2.2.2.1), (484, r4.2.2.2.2.2.2.2.2.2.2.2.1), (485, r4.2.2.2.2.2.2.2.2.2.2.2.2.1), (486, r4.2.2.2.2.2.2.2.2.2.2.2.2.2.1), (487, r4.2.2.2.2.2.2.2.2.2.2.2.2.2.2.1), (488, r4.2.2.2.2.2.2.2.2.2.2.2.2.2.2.2.1), (490, r4.2.2.2.2.2.2.2.2.2.2.2.2.2.2.2.2.1), (491, r4.2.2.2.2.2.2.2.2.2.2.2.2.2.2.2.2.2)]) (lE' := []) rfl rfl ?_
  refine q_blk 1 [] (c' := q_kc (0, r, m, 499, 529, ext, rx, L) I E 15 [none, none, none, some (.int r4.1), none] [.int r4.1] [(473, r4.2.1), (475, r4.2.2.1), (476, r4.2.2.2.1), (477, r4.2.2.2.2.1), (478, r4.2.2.2.2.2.1), (479, r4.2.2.2.2.2.2.1), (480, r4.2.2.2.2.2.2.2.1), (481, r4.2.2.2.2.2.2.2.2.1), (482, r4.2.2.2.2.2.2.2.2.2.1), (483, r4.2.2.2.2.2.2.2.2.2.2.1), (484, r4.2.2.2.2.2.2.2.2.2.2.2.1), (485, r4.2.2.2.2.2.2.2.2.2.2.2.2.1), (486, r4.2.2.2.2.2.2.2.2.2.2.2.2.2.1), (487, r4.2.2.2.2.2.2.2.2.2.2.2.2.2.2.1), (488, r4.2.2.2.2.2.2.2.2.2.2.2.2.2.2.2.1), (490, r4.2.2.2.2.2.2.2.2.2.2.2.2.2.2.2.2.1), (491, r4.2.2.2.2.2.2.2.2.2.2.2.2.2.2.2.2.2)] []) ok_X3_goOn rfl q_cn ?_
  cases hf
  exact q_kri ok_X3_goOn rfl rfl rfl (Nat.le_of_ble_eq_true rfl) (Nat.le_of_ble_eq_true rfl) ⟨rfl, q_hpe (q_fin [473, 475, 476, 477, 478, 479, 480, 481, 482, 483, 484, 485, 486, 487, 488, 490, 491] rfl) (q_fin [] rfl)⟩
set_option maxHeartbeats 4000000 in
theorem lp_X12_stepsUntilCopying_L13_400 {g : q_G} {d mc ms : Nat} {h0 : q_H} {Q : (Option Value ⊕ String) → q_H → Prop} {k n : Nat} {r : Nat} {m : Nat} {ext : Nat → q_Sh} {rx : Nat → Nat → Option Nat} {L : Nat → Nat → Int64} (hd : 8 ≤ d) (hk : k ≤ mc) (hn : n ≤ ms)  : ∀ (fu : Nat) {I : Nat → Nat → Int32} {E : Nat → Nat → Option Nat} {v1 : Int32} {r0 : Nat × Int32 × (Nat → Int32) × (Nat → Int32) × (Nat → Int32) × (Nat → Int32) × (Nat → Int32) × (Nat → Int32) × (Nat → Int32) × (Nat → Int32) × (Nat → Int32) × (Nat → Int32) × (Nat → Int32) × (Nat → Int32) × (Nat → Int32) × (Nat → Int32) × (Nat → Int32) × (Nat → Int32) × (Nat → Int32)} (hf : f_X12_stepsUntilCopying_L13 (I 402) (I 405) (I 457) (E 404) (fun j => I (406 + j)) (fun j => E (406 + j)) fu (I 473) (I 475) (I 476) (I 477) (I 478) (I 479) (I 480) (I 481) (I 482) (I 483) (I 484) (I 485) (I 486) (I 487) (I 488) (I 490) (I 491) v1 = some r0) (hK0 : r0.1 = 0 → q_J g m_X12_stepsUntilCopying d mc ms h0 [487, 488] Q k n (q_kc (0, r, m, 499, 529, ext, rx, L) I E 34 [none, none] [] [(473, r0.2.2.1), (475, r0.2.2.2.1), (476, r0.2.2.2.2.1), (477, r0.2.2.2.2.2.1), (478, r0.2.2.2.2.2.2.1), (479, r0.2.2.2.2.2.2.2.1), (480, r0.2.2.2.2.2.2.2.2.1), (481, r0.2.2.2.2.2.2.2.2.2.1), (482, r0.2.2.2.2.2.2.2.2.2.2.1), (483, r0.2.2.2.2.2.2.2.2.2.2.2.1), (484, r0.2.2.2.2.2.2.2.2.2.2.2.2.1), (485, r0.2.2.2.2.2.2.2.2.2.2.2.2.2.1), (486, r0.2.2.2.2.2.2.2.2.2.2.2.2.2.2.1), (487, r0.2.2.2.2.2.2.2.2.2.2.2.2.2.2.2.1), (488, r0.2.2.2.2.2.2.2.2.2.2.2.2.2.2.2.2.1), (490, r0.2.2.2.2.2.2.2.2.2.2.2.2.2.2.2.2.2.1), (491, r0.2.2.2.2.2.2.2.2.2.2.2.2.2.2.2.2.2.2)] [])) (hK1 : r0.1 = 1 → q_J g m_X12_stepsUntilCopying d mc ms h0 [487, 488] Q k n (q_kc (0, r, m, 499, 529, ext, rx, L) I E 30 [none, some (.int r0.2.1)] [] [(473, r0.2.2.1), (475, r0.2.2.2.1), (476, r0.2.2.2.2.1), (477, r0.2.2.2.2.2.1), (478, r0.2.2.2.2.2.2.1), (479, r0.2.2.2.2.2.2.2.1), (480, r0.2.2.2.2.2.2.2.2.1), (481, r0.2.2.2.2.2.2.2.2.2.1), (482, r0.2.2.2.2.2.2.2.2.2.2.1), (483, r0.2.2.2.2.2.2.2.2.2.2.2.1), (484, r0.2.2.2.2.2.2.2.2.2.2.2.2.1), (485, r0.2.2.2.2.2.2.2.2.2.2.2.2.2.1), (486, r0.2.2.2.2.2.2.2.2.2.2.2.2.2.2.1), (487, r0.2.2.2.2.2.2.2.2.2.2.2.2.2.2.2.1), (488, r0.2.2.2.2.2.2.2.2.2.2.2.2.2.2.2.2.1), (490, r0.2.2.2.2.2.2.2.2.2.2.2.2.2.2.2.2.2.1), (491, r0.2.2.2.2.2.2.2.2.2.2.2.2.2.2.2.2.2.2)] [])), q_J g m_X12_stepsUntilCopying d mc ms h0 [487, 488] Q k n (13, [some (.ref 400), some (.int v1)], [], q_hp (0, r, m, 499, 529, ext, rx, L) I E) := by
  intro fu
  induction fu with
  | zero =>
    intro I E v1 r0 hf hK0 hK1
    rw [f_X12_stepsUntilCopying_L13] at hf
    cases hf
  | succ fu ih =>
    intro I E v1 r0 hf hK0 hK1
    rw [f_X12_stepsUntilCopying_L13] at hf
    change q_J g m_X12_stepsUntilCopying d mc ms h0 [487, 488] Q k n (q_kc (0, r, m, 499, 529, ext, rx, L) I E 13 [some (.ref 400), some (.int v1)] [] [] [])
    refine q_blf 2 [] (a := q_kc (0, r, m, 499, 529, ext, rx, L) I E 34 [some (.ref 400), some (.int v1)] [] [] []) (b := q_kc (0, r, m, 499, 529, ext, rx, L) I E 16 [some (.ref 400), some (.int v1)] [] [] []) (P := (100 : Int32) < v1) ok_X12_stepsUntilCopying rfl q_cn (fun h1 => ?_) (fun h1 => ?_)
    · have hf := q_ip h1 hf
      refine q_less (ls' := [none, none]) (q_sb1 (q_sb1 q_sb0)) ?_
      cases hf
      exact q_Jpad [473, 475, 476, 477, 478, 479, 480, 481, 482, 483, 484, 485, 486, 487, 488, 490, 491] [] rfl rfl (hK0 rfl)
    · have hf := q_in h1 hf
      refine q_blk 5 [] (c' := q_kc (0, r, m, 499, 529, ext, rx, L) I E 21 [some (.ref 400), some (.int v1)] [.int (1 : Int32), .ref 473, .ref 489] [] []) ok_X12_stepsUntilCopying rfl q_cn ?_
      obtain ⟨r2, hr2, hf⟩ := q_bd hf
      refine q_kV (M2 := m_X3_goOn) (As := [.ref 473, .int (1 : Int32)]) (b := 489) (v2 := some (.int r2.1)) ok_X12_stepsUntilCopying ok_X3_goOn cv_X3_goOn (ct_X3_goOn_489_473 (d := 7) (Nat.le_refl _) hr2) rfl rfl (Or.inl rfl) rfl rfl rfl rfl (Nat.le_trans (Nat.le_of_ble_eq_true rfl) hd) hk hn (Nat.le_of_ble_eq_true rfl) (fun x hx => hx) rfl rfl rfl (pos' := 22) (st' := [.int r2.1]) (lI' := [(473, r2.2.1), (475, r2.2.2.1), (476, r2.2.2.2.1), (477, r2.2.2.2.2.1), (478, r2.2.2.2.2.2.1), (479, r2.2.2.2.2.2.2.1), (480, r2.2.2.2.2.2.2.2.1), (481, r2.2.2.2.2.2.2.2.2.1), (482, r2.2.2.2.2.2.2.2.2.2.1), (483, r2.2.2.2.2.2.2.2.2.2.2.1), (484, r2.2.2.2.2.2.2.2.2.2.2.2.1), (485, r2.2.2.2.2.2.2.2.2.2.2.2.2.1), (486, r2.2.2.2.2.2.2.2.2.2.2.2.2.2.1), (487, r2.2.2.2.2.2.2.2.2.2.2.2.2.2.2.1), (488, r2.2.2.2.2.2.2.2.2.2.2.2.2.2.2.2.1), (490, r2.2.2.2.2.2.2.2.2.2.2.2.2.2.2.2.2.1), (491, r2.2.2.2.2.2.2.2.2.2.2.2.2.2.2.2.2.2)]) (lE' := []) rfl rfl rfl rfl ?_
      refine q_blf 7 [] (a := q_kc (0, r, m, 499, 529, ext, rx, L) I E 32 [some (.ref 400), some (.int v1)] [] [(473, r2.2.1), (475, r2.2.2.1), (476, r2.2.2.2.1), (477, r2.2.2.2.2.1), (478, r2.2.2.2.2.2.1), (479, r2.2.2.2.2.2.2.1), (480, r2.2.2.2.2.2.2.2.1), (481, r2.2.2.2.2.2.2.2.2.1), (482, r2.2.2.2.2.2.2.2.2.2.1), (483, r2.2.2.2.2.2.2.2.2.2.2.1), (484, r2.2.2.2.2.2.2.2.2.2.2.2.1), (485, r2.2.2.2.2.2.2.2.2.2.2.2.2.1), (486, r2.2.2.2.2.2.2.2.2.2.2.2.2.2.1), (487, r2.2.2.2.2.2.2.2.2.2.2.2.2.2.2.1), (488, r2.2.2.2.2.2.2.2.2.2.2.2.2.2.2.2.1), (490, r2.2.2.2.2.2.2.2.2.2.2.2.2.2.2.2.2.1), (491, r2.2.2.2.2.2.2.2.2.2.2.2.2.2.2.2.2.2)] []) (b := q_kc (0, r, m, 499, 529, ext, rx, L) I E 30 [some (.ref 400), some (.int v1)] [] [(473, r2.2.1), (475, r2.2.2.1), (476, r2.2.2.2.1), (477, r2.2.2.2.2.1), (478, r2.2.2.2.2.2.1), (479, r2.2.2.2.2.2.2.1), (480, r2.2.2.2.2.2.2.2.1), (481, r2.2.2.2.2.2.2.2.2.1), (482, r2.2.2.2.2.2.2.2.2.2.1), (483, r2.2.2.2.2.2.2.2.2.2.2.1), (484, r2.2.2.2.2.2.2.2.2.2.2.2.1), (485, r2.2.2.2.2.2.2.2.2.2.2.2.2.1), (486, r2.2.2.2.2.2.2.2.2.2.2.2.2.2.1), (487, r2.2.2.2.2.2.2.2.2.2.2.2.2.2.2.1), (488, r2.2.2.2.2.2.2.2.2.2.2.2.2.2.2.2.1), (490, r2.2.2.2.2.2.2.2.2.2.2.2.2.2.2.2.2.1), (491, r2.2.2.2.2.2.2.2.2.2.2.2.2.2.2.2.2.2)] []) (P := (r2.2.1 12) = ((I 457) 12)) ok_X12_stepsUntilCopying rfl q_cn (fun h3 => ?_) (fun h3 => ?_)
      · have hf := q_ip h3 hf
        refine q_blk 2 [] (c' := q_kc (0, r, m, 499, 529, ext, rx, L) I E 13 [some (.ref 400), some (.int (v1 + 1))] [] [(473, r2.2.1), (475, r2.2.2.1), (476, r2.2.2.2.1), (477, r2.2.2.2.2.1), (478, r2.2.2.2.2.2.1), (479, r2.2.2.2.2.2.2.1), (480, r2.2.2.2.2.2.2.2.1), (481, r2.2.2.2.2.2.2.2.2.1), (482, r2.2.2.2.2.2.2.2.2.2.1), (483, r2.2.2.2.2.2.2.2.2.2.2.1), (484, r2.2.2.2.2.2.2.2.2.2.2.2.1), (485, r2.2.2.2.2.2.2.2.2.2.2.2.2.1), (486, r2.2.2.2.2.2.2.2.2.2.2.2.2.2.1), (487, r2.2.2.2.2.2.2.2.2.2.2.2.2.2.2.1), (488, r2.2.2.2.2.2.2.2.2.2.2.2.2.2.2.2.1), (490, r2.2.2.2.2.2.2.2.2.2.2.2.2.2.2.2.2.1), (491, r2.2.2.2.2.2.2.2.2.2.2.2.2.2.2.2.2.2)] []) ok_X12_stepsUntilCopying rfl q_cn ?_
        exact ih (I := q_ws I [(473, r2.2.1), (475, r2.2.2.1), (476, r2.2.2.2.1), (477, r2.2.2.2.2.1), (478, r2.2.2.2.2.2.1), (479, r2.2.2.2.2.2.2.1), (480, r2.2.2.2.2.2.2.2.1), (481, r2.2.2.2.2.2.2.2.2.1), (482, r2.2.2.2.2.2.2.2.2.2.1), (483, r2.2.2.2.2.2.2.2.2.2.2.1), (484, r2.2.2.2.2.2.2.2.2.2.2.2.1), (485, r2.2.2.2.2.2.2.2.2.2.2.2.2.1), (486, r2.2.2.2.2.2.2.2.2.2.2.2.2.2.1), (487, r2.2.2.2.2.2.2.2.2.2.2.2.2.2.2.1), (488, r2.2.2.2.2.2.2.2.2.2.2.2.2.2.2.2.1), (490, r2.2.2.2.2.2.2.2.2.2.2.2.2.2.2.2.2.1), (491, r2.2.2.2.2.2.2.2.2.2.2.2.2.2.2.2.2.2)]) (E := q_ws E []) hf (fun hz => q_Jmrg rfl rfl (hK0 hz)) (fun hz => q_Jmrg rfl rfl (hK1 hz))
      · have hf := q_in h3 hf
        refine q_less (ls' := [none, some (.int v1)]) (q_sb1 (q_sb2 q_sb0)) ?_
        cases hf
        exact q_Jpad [473, 475, 476, 477, 478, 479, 480, 481, 482, 483, 484, 485, 486, 487, 488, 490, 491] [] rfl rfl (hK1 rfl)
set_option maxHeartbeats 4000000 in
theorem ct_X12_stepsUntilCopying_400 {g : q_G} {t : Nat} {r : Nat} {m : Nat} {ext : Nat → q_Sh} {rx : Nat → Nat → Option Nat} {L : Nat → Nat → Int64} {d : Nat} (hd : 8 ≤ d)  {I : Nat → Nat → Int32} {E : Nat → Nat → Option Nat} {r0 : Int32 × (Nat → Int32) × (Nat → Int32) × (Nat → Int32) × (Nat → Int32) × (Nat → Int32) × (Nat → Int32) × (Nat → Int32) × (Nat → Int32) × (Nat → Int32) × (Nat → Int32) × (Nat → Int32) × (Nat → Int32) × (Nat → Int32) × (Nat → Int32) × (Nat → Int32) × (Nat → Int32) × (Nat → Int32)} (hf : f_X12_stepsUntilCopying (I 402) (I 405) (I 457) (I 459) (I 460) (I 461) (I 462) (I 463) (I 464) (I 465) (I 466) (I 470) (I 471) (I 473) (I 475) (I 476) (I 477) (I 478) (I 479) (I 480) (I 481) (I 482) (I 483) (I 484) (I 485) (I 486) (I 487) (I 488) (I 490) (I 491) (E 404) (fun j => I (406 + j)) (fun j => E (406 + j)) = some r0) : q_Ct g m_X12_stepsUntilCopying d 0 0 [487, 488] [.ref 400] (q_hp (t, r, m, 499, 529, ext, rx, L) I E) (fun o h' => o = .inl (some (.int r0.1)) ∧ h' = q_hp (0, r, m, 499, 529, ext, rx, L) (q_ws I [(473, r0.2.1), (475, r0.2.2.1), (476, r0.2.2.2.1), (477, r0.2.2.2.2.1), (478, r0.2.2.2.2.2.1), (479, r0.2.2.2.2.2.2.1), (480, r0.2.2.2.2.2.2.2.1), (481, r0.2.2.2.2.2.2.2.2.1), (482, r0.2.2.2.2.2.2.2.2.2.1), (483, r0.2.2.2.2.2.2.2.2.2.2.1), (484, r0.2.2.2.2.2.2.2.2.2.2.2.1), (485, r0.2.2.2.2.2.2.2.2.2.2.2.2.1), (486, r0.2.2.2.2.2.2.2.2.2.2.2.2.2.1), (487, r0.2.2.2.2.2.2.2.2.2.2.2.2.2.2.1), (488, r0.2.2.2.2.2.2.2.2.2.2.2.2.2.2.2.1), (490, r0.2.2.2.2.2.2.2.2.2.2.2.2.2.2.2.2.1), (491, r0.2.2.2.2.2.2.2.2.2.2.2.2.2.2.2.2.2)]) (q_ws E [])) := by
  rw [f_X12_stepsUntilCopying] at hf
  refine q_Ct_of ok_X12_stepsUntilCopying (Nat.le_of_ble_eq_true rfl) ?_ _ rfl rfl
  change q_J g m_X12_stepsUntilCopying d 0 0 _ [487, 488] _ 0 0 (q_kc (t, r, m, 499, 529, ext, rx, L) I E 0 [some (.ref 400), none] [] [] [])
  refine q_blf 3 [] (a := q_kc (t, r, m, 499, 529, ext, rx, L) I E 6 [some (.ref 400), none] [] [] []) (b := q_kc (t, r, m, 499, 529, ext, rx, L) I E 4 [some (.ref 400), none] [] [] []) (P := ¬ ((I 402) 4) = 0) ok_X12_stepsUntilCopying rfl q_cn (fun h4 => ?_) (fun h4 => ?_)
  · have hf := q_ip h4 hf
    refine q_blk 4 [] (c' := q_kc (t, r, m, 499, 529, ext, rx, L) I E 10 [some (.ref 400), none] [.ref 457, .ref 473] [] []) ok_X12_stepsUntilCopying rfl q_cn ?_
    obtain ⟨r5, hr5, hf⟩ := q_bd hf
    refine q_kV (M2 := m_X2_imitate) (As := [.ref 457]) (b := 473) (v2 := none) ok_X12_stepsUntilCopying ok_X2_imitate cv_X2_imitate (ct_X2_imitate_473_457 (d := 3) (Nat.le_refl _) hr5) rfl rfl (Or.inl rfl) rfl rfl rfl rfl (Nat.le_trans (Nat.le_of_ble_eq_true rfl) hd) (Nat.le_of_ble_eq_true rfl) (Nat.le_of_ble_eq_true rfl) (Nat.le_of_ble_eq_true rfl) (fun x hx => absurd hx List.not_mem_nil) (q_nmL0 _) (q_nmS0 _) rfl (pos' := 11) (st' := []) (lI' := [(473, r5.1), (475, r5.2.1), (476, r5.2.2.1), (477, r5.2.2.2.1), (478, r5.2.2.2.2.1), (479, r5.2.2.2.2.2.1), (480, r5.2.2.2.2.2.2.1), (481, r5.2.2.2.2.2.2.2.1), (482, r5.2.2.2.2.2.2.2.2.1), (486, r5.2.2.2.2.2.2.2.2.2.1), (487, r5.2.2.2.2.2.2.2.2.2.2)]) (lE' := []) rfl rfl rfl rfl ?_
    refine q_blk 2 [] (c' := q_kc (0, r, m, 499, 529, ext, rx, L) I E 13 [some (.ref 400), some (.int (1 : Int32))] [] [(473, r5.1), (475, r5.2.1), (476, r5.2.2.1), (477, r5.2.2.2.1), (478, r5.2.2.2.2.1), (479, r5.2.2.2.2.2.1), (480, r5.2.2.2.2.2.2.1), (481, r5.2.2.2.2.2.2.2.1), (482, r5.2.2.2.2.2.2.2.2.1), (486, r5.2.2.2.2.2.2.2.2.2.1), (487, r5.2.2.2.2.2.2.2.2.2.2)] []) ok_X12_stepsUntilCopying rfl q_cn ?_
    obtain ⟨r6, hr6, hf⟩ := q_bd hf
    refine lp_X12_stepsUntilCopying_L13_400 (I := q_ws I [(473, r5.1), (475, r5.2.1), (476, r5.2.2.1), (477, r5.2.2.2.1), (478, r5.2.2.2.2.1), (479, r5.2.2.2.2.2.1), (480, r5.2.2.2.2.2.2.1), (481, r5.2.2.2.2.2.2.2.1), (482, r5.2.2.2.2.2.2.2.2.1), (486, r5.2.2.2.2.2.2.2.2.2.1), (487, r5.2.2.2.2.2.2.2.2.2.2)]) (E := q_ws E []) hd (Nat.le_of_ble_eq_true rfl) (Nat.le_of_ble_eq_true rfl) 4096 hr6 ?_ ?_
    · intro hz0
      have hf := q_ip hz0 hf
      refine q_Jmrg (lI' := [(473, r6.2.2.1), (475, r6.2.2.2.1), (476, r6.2.2.2.2.1), (477, r6.2.2.2.2.2.1), (478, r6.2.2.2.2.2.2.1), (479, r6.2.2.2.2.2.2.2.1), (480, r6.2.2.2.2.2.2.2.2.1), (481, r6.2.2.2.2.2.2.2.2.2.1), (482, r6.2.2.2.2.2.2.2.2.2.2.1), (483, r6.2.2.2.2.2.2.2.2.2.2.2.1), (484, r6.2.2.2.2.2.2.2.2.2.2.2.2.1), (485, r6.2.2.2.2.2.2.2.2.2.2.2.2.2.1), (486, r6.2.2.2.2.2.2.2.2.2.2.2.2.2.2.1), (487, r6.2.2.2.2.2.2.2.2.2.2.2.2.2.2.2.1), (488, r6.2.2.2.2.2.2.2.2.2.2.2.2.2.2.2.2.1), (490, r6.2.2.2.2.2.2.2.2.2.2.2.2.2.2.2.2.2.1), (491, r6.2.2.2.2.2.2.2.2.2.2.2.2.2.2.2.2.2.2)]) (lE' := []) rfl rfl ?_
      refine q_blk 1 [] (c' := q_kc (0, r, m, 499, 529, ext, rx, L) I E 35 [none, none] [.int (-1 : Int32)] [(473, r6.2.2.1), (475, r6.2.2.2.1), (476, r6.2.2.2.2.1), (477, r6.2.2.2.2.2.1), (478, r6.2.2.2.2.2.2.1), (479, r6.2.2.2.2.2.2.2.1), (480, r6.2.2.2.2.2.2.2.2.1), (481, r6.2.2.2.2.2.2.2.2.2.1), (482, r6.2.2.2.2.2.2.2.2.2.2.1), (483, r6.2.2.2.2.2.2.2.2.2.2.2.1), (484, r6.2.2.2.2.2.2.2.2.2.2.2.2.1), (485, r6.2.2.2.2.2.2.2.2.2.2.2.2.2.1), (486, r6.2.2.2.2.2.2.2.2.2.2.2.2.2.2.1), (487, r6.2.2.2.2.2.2.2.2.2.2.2.2.2.2.2.1), (488, r6.2.2.2.2.2.2.2.2.2.2.2.2.2.2.2.2.1), (490, r6.2.2.2.2.2.2.2.2.2.2.2.2.2.2.2.2.2.1), (491, r6.2.2.2.2.2.2.2.2.2.2.2.2.2.2.2.2.2.2)] []) ok_X12_stepsUntilCopying rfl q_cn ?_
      cases hf
      exact q_kri ok_X12_stepsUntilCopying rfl rfl rfl (Nat.le_of_ble_eq_true rfl) (Nat.le_of_ble_eq_true rfl) ⟨rfl, q_hpe (q_fin [473, 475, 476, 477, 478, 479, 480, 481, 482, 483, 484, 485, 486, 487, 488, 490, 491] rfl) (q_fin [] rfl)⟩
    · intro hz1
      have hf := q_in (fun h9 => absurd (hz1.symm.trans h9) (by decide)) hf
      refine q_Jmrg (lI' := [(473, r6.2.2.1), (475, r6.2.2.2.1), (476, r6.2.2.2.2.1), (477, r6.2.2.2.2.2.1), (478, r6.2.2.2.2.2.2.1), (479, r6.2.2.2.2.2.2.2.1), (480, r6.2.2.2.2.2.2.2.2.1), (481, r6.2.2.2.2.2.2.2.2.2.1), (482, r6.2.2.2.2.2.2.2.2.2.2.1), (483, r6.2.2.2.2.2.2.2.2.2.2.2.1), (484, r6.2.2.2.2.2.2.2.2.2.2.2.2.1), (485, r6.2.2.2.2.2.2.2.2.2.2.2.2.2.1), (486, r6.2.2.2.2.2.2.2.2.2.2.2.2.2.2.1), (487, r6.2.2.2.2.2.2.2.2.2.2.2.2.2.2.2.1), (488, r6.2.2.2.2.2.2.2.2.2.2.2.2.2.2.2.2.1), (490, r6.2.2.2.2.2.2.2.2.2.2.2.2.2.2.2.2.2.1), (491, r6.2.2.2.2.2.2.2.2.2.2.2.2.2.2.2.2.2.2)]) (lE' := []) rfl rfl ?_
      refine q_blk 1 [] (c' := q_kc (0, r, m, 499, 529, ext, rx, L) I E 31 [none, some (.int r6.2.1)] [.int r6.2.1] [(473, r6.2.2.1), (475, r6.2.2.2.1), (476, r6.2.2.2.2.1), (477, r6.2.2.2.2.2.1), (478, r6.2.2.2.2.2.2.1), (479, r6.2.2.2.2.2.2.2.1), (480, r6.2.2.2.2.2.2.2.2.1), (481, r6.2.2.2.2.2.2.2.2.2.1), (482, r6.2.2.2.2.2.2.2.2.2.2.1), (483, r6.2.2.2.2.2.2.2.2.2.2.2.1), (484, r6.2.2.2.2.2.2.2.2.2.2.2.2.1), (485, r6.2.2.2.2.2.2.2.2.2.2.2.2.2.1), (486, r6.2.2.2.2.2.2.2.2.2.2.2.2.2.2.1), (487, r6.2.2.2.2.2.2.2.2.2.2.2.2.2.2.2.1), (488, r6.2.2.2.2.2.2.2.2.2.2.2.2.2.2.2.2.1), (490, r6.2.2.2.2.2.2.2.2.2.2.2.2.2.2.2.2.2.1), (491, r6.2.2.2.2.2.2.2.2.2.2.2.2.2.2.2.2.2.2)] []) ok_X12_stepsUntilCopying rfl q_cn ?_
      cases hf
      exact q_kri ok_X12_stepsUntilCopying rfl rfl rfl (Nat.le_of_ble_eq_true rfl) (Nat.le_of_ble_eq_true rfl) ⟨rfl, q_hpe (q_fin [473, 475, 476, 477, 478, 479, 480, 481, 482, 483, 484, 485, 486, 487, 488, 490, 491] rfl) (q_fin [] rfl)⟩
  · have hf := q_in h4 hf
    refine q_blk 1 [] (c' := q_kc (t, r, m, 499, 529, ext, rx, L) I E 5 [some (.ref 400), none] [.int (-1 : Int32)] [] []) ok_X12_stepsUntilCopying rfl q_cn ?_
    cases hf
    exact q_kri ok_X12_stepsUntilCopying rfl rfl rfl (Nat.le_of_ble_eq_true rfl) (Nat.le_of_ble_eq_true rfl) ⟨rfl, q_hpe (q_fin [473, 475, 476, 477, 478, 479, 480, 481, 482, 483, 484, 485, 486, 487, 488, 490, 491] rfl) (q_fin [] rfl)⟩
set_option maxHeartbeats 4000000 in
theorem ct_X12_usedAfter_400 {g : q_G} {t : Nat} {r : Nat} {m : Nat} {ext : Nat → q_Sh} {rx : Nat → Nat → Option Nat} {L : Nat → Nat → Int64} {d : Nat} (hd : 8 ≤ d)  {I : Nat → Nat → Int32} {E : Nat → Nat → Option Nat} {x1 : Int32} {r0 : (Int32 ⊕ String) × (Nat → Int32) × (Nat → Int32) × (Nat → Int32) × (Nat → Int32) × (Nat → Int32) × (Nat → Int32) × (Nat → Int32) × (Nat → Int32) × (Nat → Int32) × (Nat → Int32) × (Nat → Int32) × (Nat → Int32) × (Nat → Int32) × (Nat → Int32) × (Nat → Int32) × (Nat → Int32) × (Nat → Int32)} (hf : f_X12_usedAfter (I 402) (I 405) (I 457) (I 459) (I 460) (I 461) (I 462) (I 463) (I 464) (I 465) (I 466) (I 470) (I 471) (I 473) (I 475) (I 476) (I 477) (I 478) (I 479) (I 480) (I 481) (I 482) (I 483) (I 484) (I 485) (I 486) (I 487) (I 488) (I 490) (I 491) (E 404) (fun j => I (406 + j)) (fun j => E (406 + j)) x1 = some r0) : q_Ct g m_X12_usedAfter d 2 12 [487, 488] [.ref 400, .int x1] (q_hp (t, r, m, 499, 529, ext, rx, L) I E) (fun o h' => o = q_oI r0.1 ∧ h' = q_hp (0, r, m, 499, 529, ext, rx, L) (q_ws I [(473, r0.2.1), (475, r0.2.2.1), (476, r0.2.2.2.1), (477, r0.2.2.2.2.1), (478, r0.2.2.2.2.2.1), (479, r0.2.2.2.2.2.2.1), (480, r0.2.2.2.2.2.2.2.1), (481, r0.2.2.2.2.2.2.2.2.1), (482, r0.2.2.2.2.2.2.2.2.2.1), (483, r0.2.2.2.2.2.2.2.2.2.2.1), (484, r0.2.2.2.2.2.2.2.2.2.2.2.1), (485, r0.2.2.2.2.2.2.2.2.2.2.2.2.1), (486, r0.2.2.2.2.2.2.2.2.2.2.2.2.2.1), (487, r0.2.2.2.2.2.2.2.2.2.2.2.2.2.2.1), (488, r0.2.2.2.2.2.2.2.2.2.2.2.2.2.2.2.1), (490, r0.2.2.2.2.2.2.2.2.2.2.2.2.2.2.2.2.1), (491, r0.2.2.2.2.2.2.2.2.2.2.2.2.2.2.2.2.2)]) (q_ws E [])) := by
  rw [f_X12_usedAfter] at hf
  refine q_Ct_of ok_X12_usedAfter (Nat.le_of_ble_eq_true rfl) ?_ _ rfl rfl
  change q_J g m_X12_usedAfter d 2 12 _ [487, 488] _ 0 0 (q_kc (t, r, m, 499, 529, ext, rx, L) I E 0 [some (.ref 400), some (.int x1)] [] [] [])
  refine q_blk 2 [] (c' := q_kc (t, r, m, 499, 529, ext, rx, L) I E 2 [some (.ref 400), some (.int x1)] [.int x1, .ref 400] [] []) ok_X12_usedAfter rfl q_cn ?_
  obtain ⟨r1, hr1, hf⟩ := q_bd hf
  cases hv4 : r1 with
  | inl v2 =>
    have hf := q_sm0 hv4 hf
    refine q_kV (M2 := m_X12_checkWork) (As := [.int x1]) (b := 400) (v2 := none) ok_X12_usedAfter ok_X12_checkWork cv_X12_checkWork (ct_X12_checkWork_400 (d := 6) (Nat.le_refl _) hr1) (q_oVl hv4) rfl (Or.inl rfl) rfl rfl rfl rfl (Nat.le_trans (Nat.le_of_ble_eq_true rfl) hd) (Nat.le_of_ble_eq_true rfl) (Nat.le_of_ble_eq_true rfl) (Nat.le_of_ble_eq_true rfl) (fun x hx => absurd hx List.not_mem_nil) (q_nmL0 _) (q_nmS0 _) rfl (pos' := 3) (st' := [.int (r6.2.1 8)]) (lI' := []) (lE' := []) rfl rfl rfl rfl ?_
    refine q_blk 4 [] (c' := q_kc (t, r, m, 499, 529, ext, rx, L) I E 7 [some (.ref 400), some (.int x1)] [.ref 457, .ref 473] [] []) ok_X12_usedAfter rfl q_cn ?_
    obtain ⟨r5, hr5, hf⟩ := q_bd hf
    refine q_kV (M2 := m_X2_imitate) (As := [.ref 457]) (b := 473) (v2 := none) ok_X12_usedAfter ok_X2_imitate cv_X2_imitate (ct_X2_imitate_473_457 (d := 3) (Nat.le_refl _) hr5) rfl rfl (Or.inl rfl) rfl rfl rfl rfl (Nat.le_trans (Nat.le_of_ble_eq_true rfl) hd) (Nat.le_of_ble_eq_true rfl) (Nat.le_of_ble_eq_true rfl) (Nat.le_of_ble_eq_true rfl) (fun x hx => absurd hx List.not_mem_nil) (q_nmL0 _) (q_nmS0 _) rfl (pos' := 8) (st' := []) (lI' := [(473, r5.1), (475, r5.2.1), (476, r5.2.2.1), (477, r5.2.2.2.1), (478, r5.2.2.2.2.1), (479, r5.2.2.2.2.2.1), (480, r5.2.2.2.2.2.2.1), (481, r5.2.2.2.2.2.2.2.1), (482, r5.2.2.2.2.2.2.2.2.1), (486, r5.2.2.2.2.2.2.2.2.2.1), (487, r5.2.2.2.2.2.2.2.2.2.2)]) (lE' := []) rfl rfl rfl rfl ?_
    refine q_blk 5 [] (c' := q_kc (0, r, m, 499, 529, ext, rx, L) I E 13 [some (.ref 400), some (.int x1)] [.int x1, .ref 473, .ref 489] [(473, r5.1), (475, r5.2.1), (476, r5.2.2.1), (477, r5.2.2.2.1), (478, r5.2.2.2.2.1), (479, r5.2.2.2.2.2.1), (480, r5.2.2.2.2.2.2.1), (481, r5.2.2.2.2.2.2.2.1), (482, r5.2.2.2.2.2.2.2.2.1), (486, r5.2.2.2.2.2.2.2.2.2.1), (487, r5.2.2.2.2.2.2.2.2.2.2)] []) ok_X12_usedAfter rfl q_cn ?_
    refine q_less (ls' := [some (.ref 400), none]) (q_sb2 (q_sb1 q_sb0)) ?_
    obtain ⟨r6, hr6, hf⟩ := q_bd hf
    refine q_kV (M2 := m_X3_goOn) (As := [.ref 473, .int x1]) (b := 489) (v2 := some (.int r6.1)) ok_X12_usedAfter ok_X3_goOn cv_X3_goOn (ct_X3_goOn_489_473 (d := 7) (Nat.le_refl _) hr6) rfl rfl (Or.inl rfl) rfl rfl rfl rfl (Nat.le_trans (Nat.le_of_ble_eq_true rfl) hd) (Nat.le_of_ble_eq_true rfl) (Nat.le_of_ble_eq_true rfl) (Nat.le_of_ble_eq_true rfl) (fun x hx => hx) rfl rfl rfl (pos' := 14) (st' := [.int r6.1]) (lI' := [(473, r6.2.1), (475, r6.2.2.1), (476, r6.2.2.2.1), (477, r6.2.2.2.2.1), (478, r6.2.2.2.2.2.1), (479, r6.2.2.2.2.2.2.1), (480, r6.2.2.2.2.2.2.2.1), (481, r6.2.2.2.2.2.2.2.2.1), (482, r6.2.2.2.2.2.2.2.2.2.1), (483, r6.2.2.2.2.2.2.2.2.2.2.1), (484, r6.2.2.2.2.2.2.2.2.2.2.2.1), (485, r6.2.2.2.2.2.2.2.2.2.2.2.2.1), (486, r6.2.2.2.2.2.2.2.2.2.2.2.2.2.1), (487, r6.2.2.2.2.2.2.2.2.2.2.2.2.2.2.1), (488, r6.2.2.2.2.2.2.2.2.2.2.2.2.2.2.2.1), (490, r6.2.2.2.2.2.2.2.2.2.2.2.2.2.2.2.2.1), (491, r6.2.2.2.2.2.2.2.2.2.2.2.2.2.2.2.2.2)]) (lE' := []) rfl rfl rfl rfl ?_
    refine q_blk 4 [] (c' := q_kc (0, r, m, 499, 529, ext, rx, L) I E 18 [some (.ref 400), none] [.int (r6.2.1 8)] [(473, r6.2.1), (475, r6.2.2.1), (476, r6.2.2.2.1), (477, r6.2.2.2.2.1), (478, r6.2.2.2.2.2.1), (479, r6.2.2.2.2.2.2.1), (480, r6.2.2.2.2.2.2.2.1), (481, r6.2.2.2.2.2.2.2.2.1), (482, r6.2.2.2.2.2.2.2.2.2.1), (483, r6.2.2.2.2.2.2.2.2.2.2.1), (484, r6.2.2.2.2.2.2.2.2.2.2.2.1), (485, r6.2.2.2.2.2.2.2.2.2.2.2.2.1), (486, r6.2.2.2.2.2.2.2.2.2.2.2.2.2.1), (487, r6.2.2.2.2.2.2.2.2.2.2.2.2.2.2.1), (488, r6.2.2.2.2.2.2.2.2.2.2.2.2.2.2.2.1), (490, r6.2.2.2.2.2.2.2.2.2.2.2.2.2.2.2.2.1), (491, r6.2.2.2.2.2.2.2.2.2.2.2.2.2.2.2.2.2)] []) ok_X12_usedAfter rfl q_cn ?_
    cases hf
    exact q_kri ok_X12_usedAfter rfl rfl rfl (Nat.le_of_ble_eq_true rfl) (Nat.le_of_ble_eq_true rfl) ⟨rfl, q_hpe (q_fin [473, 475, 476, 477, 478, 479, 480, 481, 482, 483, 484, 485, 486, 487, 488, 490, 491] rfl) (q_fin [] rfl)⟩
  | inr e3 =>
    have hf := q_sm1 hv4 hf
    cases hf
    refine q_kVx (M2 := m_X12_checkWork) (As := [.int x1]) (b := 400) ok_X12_usedAfter ok_X12_checkWork cv_X12_checkWork (ct_X12_checkWork_400 (d := 6) (Nat.le_refl _) hr1) (q_oVr hv4) rfl (Or.inl rfl) rfl rfl rfl rfl (Nat.le_trans (Nat.le_of_ble_eq_true rfl) hd) (Nat.le_of_ble_eq_true rfl) (Nat.le_of_ble_eq_true rfl) (Nat.le_of_ble_eq_true rfl) (fun x hx => absurd hx List.not_mem_nil) (q_nmL0 _) (q_nmS0 _) rfl (lI' := []) (lE' := []) rfl rfl ⟨rfl, q_hpe (q_fin [473, 475, 476, 477, 478, 479, 480, 481, 482, 483, 484, 485, 486, 487, 488, 490, 491] rfl) (q_fin [] rfl)⟩
set_option maxHeartbeats 4000000 in
theorem ct_X12_usedIfCopied_400 {g : q_G} {t : Nat} {r : Nat} {m : Nat} {ext : Nat → q_Sh} {rx : Nat → Nat → Option Nat} {L : Nat → Nat → Int64} {d : Nat} (hd : 4 ≤ d)  {I : Nat → Nat → Int32} {E : Nat → Nat → Option Nat} {r0 : Int32 × (Nat → Int32) × (Nat → Int32) × (Nat → Int32) × (Nat → Int32) × (Nat → Int32) × (Nat → Int32) × (Nat → Int32) × (Nat → Int32) × (Nat → Int32) × (Nat → Int32) × (Nat → Int32) × (Nat → Int32) × (Nat → Int32) × (Nat → Int32) × (Nat → Int32)} (hf : f_X12_usedIfCopied (I 402) (I 457) (I 459) (I 460) (I 461) (I 462) (I 463) (I 464) (I 465) (I 466) (I 470) (I 471) (I 473) (I 475) (I 476) (I 477) (I 478) (I 479) (I 480) (I 481) (I 482) (I 483) (I 484) (I 485) (I 486) (I 487) (I 488) = some r0) : q_Ct g m_X12_usedIfCopied d 0 0 [487, 488] [.ref 400] (q_hp (t, r, m, 499, 529, ext, rx, L) I E) (fun o h' => o = .inl (some (.int r0.1)) ∧ h' = q_hp (0, r, m, 499, 529, ext, rx, L) (q_ws I [(473, r0.2.1), (475, r0.2.2.1), (476, r0.2.2.2.1), (477, r0.2.2.2.2.1), (478, r0.2.2.2.2.2.1), (479, r0.2.2.2.2.2.2.1), (480, r0.2.2.2.2.2.2.2.1), (481, r0.2.2.2.2.2.2.2.2.1), (482, r0.2.2.2.2.2.2.2.2.2.1), (483, r0.2.2.2.2.2.2.2.2.2.2.1), (484, r0.2.2.2.2.2.2.2.2.2.2.2.1), (485, r0.2.2.2.2.2.2.2.2.2.2.2.2.1), (486, r0.2.2.2.2.2.2.2.2.2.2.2.2.2.1), (487, r0.2.2.2.2.2.2.2.2.2.2.2.2.2.2.1), (488, r0.2.2.2.2.2.2.2.2.2.2.2.2.2.2.2)]) (q_ws E [])) := by
  rw [f_X12_usedIfCopied] at hf
  refine q_Ct_of ok_X12_usedIfCopied (Nat.le_of_ble_eq_true rfl) ?_ _ rfl rfl
  change q_J g m_X12_usedIfCopied d 0 0 _ [487, 488] _ 0 0 (q_kc (t, r, m, 499, 529, ext, rx, L) I E 0 [some (.ref 400)] [] [] [])
  refine q_blk 4 [] (c' := q_kc (t, r, m, 499, 529, ext, rx, L) I E 4 [some (.ref 400)] [.ref 457, .ref 473] [] []) ok_X12_usedIfCopied rfl q_cn ?_
  obtain ⟨r1, hr1, hf⟩ := q_bd hf
  refine q_kV (M2 := m_X2_imitate) (As := [.ref 457]) (b := 473) (v2 := none) ok_X12_usedIfCopied ok_X2_imitate cv_X2_imitate (ct_X2_imitate_473_457 (d := 3) (Nat.le_refl _) hr1) rfl rfl (Or.inl rfl) rfl rfl rfl rfl (Nat.le_trans (Nat.le_of_ble_eq_true rfl) hd) (Nat.le_of_ble_eq_true rfl) (Nat.le_of_ble_eq_true rfl) (Nat.le_of_ble_eq_true rfl) (fun x hx => absurd hx List.not_mem_nil) (q_nmL0 _) (q_nmS0 _) rfl (pos' := 5) (st' := []) (lI' := [(473, r1.1), (475, r1.2.1), (476, r1.2.2.1), (477, r1.2.2.2.1), (478, r1.2.2.2.2.1), (479, r1.2.2.2.2.2.1), (480, r1.2.2.2.2.2.2.1), (481, r1.2.2.2.2.2.2.2.1), (482, r1.2.2.2.2.2.2.2.2.1), (486, r1.2.2.2.2.2.2.2.2.2.1), (487, r1.2.2.2.2.2.2.2.2.2.2)]) (lE' := []) rfl rfl rfl rfl ?_
  refine q_blk 2 [] (c' := q_kc (0, r, m, 499, 529, ext, rx, L) I E 7 [some (.ref 400)] [.ref 473] [(473, r1.1), (475, r1.2.1), (476, r1.2.2.1), (477, r1.2.2.2.1), (478, r1.2.2.2.2.1), (479, r1.2.2.2.2.2.1), (480, r1.2.2.2.2.2.2.1), (481, r1.2.2.2.2.2.2.2.1), (482, r1.2.2.2.2.2.2.2.2.1), (486, r1.2.2.2.2.2.2.2.2.2.1), (487, r1.2.2.2.2.2.2.2.2.2.2)] []) ok_X12_usedIfCopied rfl q_cn ?_
  obtain ⟨r2, hr2, hf⟩ := q_bd hf
  refine q_kV (M2 := m_X2_copyHalf) (As := []) (b := 473) (v2 := some (.int r2.1)) ok_X12_usedIfCopied ok_X2_copyHalf cv_X2_copyHalf (ct_X2_copyHalf_473 (d := 3) (Nat.le_refl _) hr2) rfl rfl (Or.inl rfl) rfl rfl rfl rfl (Nat.le_trans (Nat.le_of_ble_eq_true rfl) hd) (Nat.le_of_ble_eq_true rfl) (Nat.le_of_ble_eq_true rfl) (Nat.le_of_ble_eq_true rfl) (fun x hx => hx) rfl rfl rfl (pos' := 8) (st' := [.int r2.1]) (lI' := [(473, r2.2.1), (475, r2.2.2.1), (476, r2.2.2.2.1), (477, r1.2.2.2.1), (478, r2.2.2.2.2.1), (479, r1.2.2.2.2.2.1), (480, r1.2.2.2.2.2.2.1), (481, r2.2.2.2.2.2.1), (482, r2.2.2.2.2.2.2.1), (483, r2.2.2.2.2.2.2.2.1), (484, r2.2.2.2.2.2.2.2.2.1), (485, r2.2.2.2.2.2.2.2.2.2.1), (486, r1.2.2.2.2.2.2.2.2.2.1), (487, r2.2.2.2.2.2.2.2.2.2.2.1), (488, r2.2.2.2.2.2.2.2.2.2.2.2)]) (lE' := []) rfl rfl rfl rfl ?_
  refine q_blk 4 [] (c' := q_kc (0, r, m, 499, 529, ext, rx, L) I E 12 [some (.ref 400)] [.int (r2.2.1 8)] [(473, r2.2.1), (475, r2.2.2.1), (476, r2.2.2.2.1), (477, r1.2.2.2.1), (478, r2.2.2.2.2.1), (479, r1.2.2.2.2.2.1), (480, r1.2.2.2.2.2.2.1), (481, r2.2.2.2.2.2.1), (482, r2.2.2.2.2.2.2.1), (483, r2.2.2.2.2.2.2.2.1), (484, r2.2.2.2.2.2.2.2.2.1), (485, r2.2.2.2.2.2.2.2.2.2.1), (486, r1.2.2.2.2.2.2.2.2.2.1), (487, r2.2.2.2.2.2.2.2.2.2.2.1), (488, r2.2.2.2.2.2.2.2.2.2.2.2)] []) ok_X12_usedIfCopied rfl q_cn ?_
  cases hf
  exact q_kri ok_X12_usedIfCopied rfl rfl rfl (Nat.le_of_ble_eq_true rfl) (Nat.le_of_ble_eq_true rfl) ⟨rfl, q_hpe (q_fin [473, 475, 476, 477, 478, 479, 480, 481, 482, 483, 484, 485, 486, 487, 488] rfl) (q_fin [] rfl)⟩
set_option maxHeartbeats 4000000 in
theorem ct_X12_digestOfCounts_400 {g : q_G} {t : Nat} {r : Nat} {m : Nat} {z : Nat} {N : Nat} {ext : Nat → q_Sh} {rx : Nat → Nat → Option Nat} {L : Nat → Nat → Int64} {d : Nat} (hd : 6 ≤ d)  {I : Nat → Nat → Int32} {E : Nat → Nat → Option Nat} {r0 : Int64 × (Nat → Int32) × (Nat → Int32) × (Nat → Int32)} (hf : f_X12_digestOfCounts (I 402) (I 457) (I 463) (I 464) (I 465) (I 466) (I 467) (I 468) (I 469) (I 470) = some r0) : q_Ct g m_X12_digestOfCounts d 0 0 [] [.ref 400] (q_hp (t, r, m, z, N, ext, rx, L) I E) (fun o h' => o = .inl (some (.long r0.1)) ∧ h' = q_hp (t, r, m, z, N, ext, rx, L) (q_ws I [(467, r0.2.1), (468, r0.2.2.1), (469, r0.2.2.2)]) (q_ws E [])) := by
  rw [f_X12_digestOfCounts] at hf
  refine q_Ct_of ok_X12_digestOfCounts (Nat.le_of_ble_eq_true rfl) ?_ _ rfl rfl
  change q_J g m_X12_digestOfCounts d 0 0 _ [] _ 0 0 (q_kc (t, r, m, z, N, ext, rx, L) I E 0 [some (.ref 400), none, none] [] [] [])
  refine q_blk 6 [] (c' := q_kc (t, r, m, z, N, ext, rx, L) I E 6 [some (.ref 400), some (.long (971 : Int64)), none] [.ref 400, .long ((971 : Int64) * (31 : Int64))] [] []) ok_X12_digestOfCounts rfl q_cn ?_
  obtain ⟨r1, hr1, hf⟩ := q_bd hf
  refine q_kV (M2 := m_X12_hooks) (As := []) (b := 400) (v2 := some (.int r1)) ok_X12_digestOfCounts ok_X12_hooks cv_X12_hooks (ct_X12_hooks_400 (d := 1) (Nat.le_refl _) hr1) rfl rfl (Or.inl rfl) rfl rfl rfl rfl (Nat.le_trans (Nat.le_of_ble_eq_true rfl) hd) (Nat.le_of_ble_eq_true rfl) (Nat.le_of_ble_eq_true rfl) (Nat.le_of_ble_eq_true rfl) (fun x hx => absurd hx List.not_mem_nil) (q_nmL0 _) (q_nmS0 _) rfl (pos' := 7) (st' := [.int r1, .long ((971 : Int64) * (31 : Int64))]) (lI' := []) (lE' := []) rfl rfl rfl rfl ?_
  refine q_blk 7 [] (c' := q_kc (t, r, m, z, N, ext, rx, L) I E 14 [some (.ref 400), some (.long (((971 : Int64) * (31 : Int64)) + r1.toInt64)), none] [.ref 400, .long ((((971 : Int64) * (31 : Int64)) + r1.toInt64) * (31 : Int64))] [] []) ok_X12_digestOfCounts rfl q_cn ?_
  obtain ⟨r2, hr2, hf⟩ := q_bd hf
  refine q_kV (M2 := m_X12_steps) (As := []) (b := 400) (v2 := some (.int r2)) ok_X12_digestOfCounts ok_X12_steps cv_X12_steps (ct_X12_steps_400 (d := 1) (Nat.le_refl _) hr2) rfl rfl (Or.inl rfl) rfl rfl rfl rfl (Nat.le_trans (Nat.le_of_ble_eq_true rfl) hd) (Nat.le_of_ble_eq_true rfl) (Nat.le_of_ble_eq_true rfl) (Nat.le_of_ble_eq_true rfl) (fun x hx => absurd hx List.not_mem_nil) (q_nmL0 _) (q_nmS0 _) rfl (pos' := 15) (st' := [.int r2, .long ((((971 : Int64) * (31 : Int64)) + r1.toInt64) * (31 : Int64))]) (lI' := []) (lE' := []) rfl rfl rfl rfl ?_
  refine q_blk 7 [] (c' := q_kc (t, r, m, z, N, ext, rx, L) I E 22 [some (.ref 400), some (.long (((((971 : Int64) * (31 : Int64)) + r1.toInt64) * (31 : Int64)) + r2.toInt64)), none] [.ref 400, .long ((((((971 : Int64) * (31 : Int64)) + r1.toInt64) * (31 : Int64)) + r2.toInt64) * (31 : Int64))] [] []) ok_X12_digestOfCounts rfl q_cn ?_
  obtain ⟨r3, hr3, hf⟩ := q_bd hf
  refine q_kV (M2 := m_X12_placesOfHalf) (As := []) (b := 400) (v2 := some (.int r3)) ok_X12_digestOfCounts ok_X12_placesOfHalf cv_X12_placesOfHalf (ct_X12_placesOfHalf_400 (d := 1) (Nat.le_refl _) hr3) rfl rfl (Or.inl rfl) rfl rfl rfl rfl (Nat.le_trans (Nat.le_of_ble_eq_true rfl) hd) (Nat.le_of_ble_eq_true rfl) (Nat.le_of_ble_eq_true rfl) (Nat.le_of_ble_eq_true rfl) (fun x hx => absurd hx List.not_mem_nil) (q_nmL0 _) (q_nmS0 _) rfl (pos' := 23) (st' := [.int r3, .long ((((((971 : Int64) * (31 : Int64)) + r1.toInt64) * (31 : Int64)) + r2.toInt64) * (31 : Int64))]) (lI' := []) (lE' := []) rfl rfl rfl rfl ?_
  refine q_blk 7 [] (c' := q_kc (t, r, m, z, N, ext, rx, L) I E 30 [some (.ref 400), some (.long (((((((971 : Int64) * (31 : Int64)) + r1.toInt64) * (31 : Int64)) + r2.toInt64) * (31 : Int64)) + r3.toInt64)), none] [.ref 400, .long ((((((((971 : Int64) * (31 : Int64)) + r1.toInt64) * (31 : Int64)) + r2.toInt64) * (31 : Int64)) + r3.toInt64) * (31 : Int64))] [] []) ok_X12_digestOfCounts rfl q_cn ?_
  obtain ⟨r4, hr4, hf⟩ := q_bd hf
  refine q_kV (M2 := m_X12_stepsGoneBy) (As := []) (b := 400) (v2 := some (.int r4)) ok_X12_digestOfCounts ok_X12_stepsGoneBy cv_X12_stepsGoneBy (ct_X12_stepsGoneBy_400 (d := 1) (Nat.le_refl _) hr4) rfl rfl (Or.inl rfl) rfl rfl rfl rfl (Nat.le_trans (Nat.le_of_ble_eq_true rfl) hd) (Nat.le_of_ble_eq_true rfl) (Nat.le_of_ble_eq_true rfl) (Nat.le_of_ble_eq_true rfl) (fun x hx => absurd hx List.not_mem_nil) (q_nmL0 _) (q_nmS0 _) rfl (pos' := 31) (st' := [.int r4, .long ((((((((971 : Int64) * (31 : Int64)) + r1.toInt64) * (31 : Int64)) + r2.toInt64) * (31 : Int64)) + r3.toInt64) * (31 : Int64))]) (lI' := []) (lE' := []) rfl rfl rfl rfl ?_
  refine q_blk 7 [] (c' := q_kc (t, r, m, z, N, ext, rx, L) I E 38 [some (.ref 400), some (.long (((((((((971 : Int64) * (31 : Int64)) + r1.toInt64) * (31 : Int64)) + r2.toInt64) * (31 : Int64)) + r3.toInt64) * (31 : Int64)) + r4.toInt64)), none] [.ref 400, .long ((((((((((971 : Int64) * (31 : Int64)) + r1.toInt64) * (31 : Int64)) + r2.toInt64) * (31 : Int64)) + r3.toInt64) * (31 : Int64)) + r4.toInt64) * (31 : Int64))] [] []) ok_X12_digestOfCounts rfl q_cn ?_
  obtain ⟨r5, hr5, hf⟩ := q_bd hf
  refine q_kV (M2 := m_X12_stepsRefused) (As := []) (b := 400) (v2 := some (.int r5)) ok_X12_digestOfCounts ok_X12_stepsRefused cv_X12_stepsRefused (ct_X12_stepsRefused_400 (d := 1) (Nat.le_refl _) hr5) rfl rfl (Or.inl rfl) rfl rfl rfl rfl (Nat.le_trans (Nat.le_of_ble_eq_true rfl) hd) (Nat.le_of_ble_eq_true rfl) (Nat.le_of_ble_eq_true rfl) (Nat.le_of_ble_eq_true rfl) (fun x hx => absurd hx List.not_mem_nil) (q_nmL0 _) (q_nmS0 _) rfl (pos' := 39) (st' := [.int r5, .long ((((((((((971 : Int64) * (31 : Int64)) + r1.toInt64) * (31 : Int64)) + r2.toInt64) * (31 : Int64)) + r3.toInt64) * (31 : Int64)) + r4.toInt64) * (31 : Int64))]) (lI' := []) (lE' := []) rfl rfl rfl rfl ?_
  refine q_blk 7 [] (c' := q_kc (t, r, m, z, N, ext, rx, L) I E 46 [some (.ref 400), some (.long (((((((((((971 : Int64) * (31 : Int64)) + r1.toInt64) * (31 : Int64)) + r2.toInt64) * (31 : Int64)) + r3.toInt64) * (31 : Int64)) + r4.toInt64) * (31 : Int64)) + r5.toInt64)), none] [.ref 400, .long ((((((((((((971 : Int64) * (31 : Int64)) + r1.toInt64) * (31 : Int64)) + r2.toInt64) * (31 : Int64)) + r3.toInt64) * (31 : Int64)) + r4.toInt64) * (31 : Int64)) + r5.toInt64) * (31 : Int64))] [] []) ok_X12_digestOfCounts rfl q_cn ?_
  obtain ⟨r6, hr6, hf⟩ := q_bd hf
  refine q_kV (M2 := m_X12_workingHalf) (As := []) (b := 400) (v2 := some (.int r6)) ok_X12_digestOfCounts ok_X12_workingHalf cv_X12_workingHalf (ct_X12_workingHalf_400 (d := 1) (Nat.le_refl _) hr6) rfl rfl (Or.inl rfl) rfl rfl rfl rfl (Nat.le_trans (Nat.le_of_ble_eq_true rfl) hd) (Nat.le_of_ble_eq_true rfl) (Nat.le_of_ble_eq_true rfl) (Nat.le_of_ble_eq_true rfl) (fun x hx => absurd hx List.not_mem_nil) (q_nmL0 _) (q_nmS0 _) rfl (pos' := 47) (st' := [.int r6, .long ((((((((((((971 : Int64) * (31 : Int64)) + r1.toInt64) * (31 : Int64)) + r2.toInt64) * (31 : Int64)) + r3.toInt64) * (31 : Int64)) + r4.toInt64) * (31 : Int64)) + r5.toInt64) * (31 : Int64))]) (lI' := []) (lE' := []) rfl rfl rfl rfl ?_
  refine q_blk 7 [] (c' := q_kc (t, r, m, z, N, ext, rx, L) I E 54 [some (.ref 400), some (.long (((((((((((((971 : Int64) * (31 : Int64)) + r1.toInt64) * (31 : Int64)) + r2.toInt64) * (31 : Int64)) + r3.toInt64) * (31 : Int64)) + r4.toInt64) * (31 : Int64)) + r5.toInt64) * (31 : Int64)) + r6.toInt64)), none] [.ref 400, .long ((((((((((((((971 : Int64) * (31 : Int64)) + r1.toInt64) * (31 : Int64)) + r2.toInt64) * (31 : Int64)) + r3.toInt64) * (31 : Int64)) + r4.toInt64) * (31 : Int64)) + r5.toInt64) * (31 : Int64)) + r6.toInt64) * (31 : Int64))] [] []) ok_X12_digestOfCounts rfl q_cn ?_
  obtain ⟨r7, hr7, hf⟩ := q_bd hf
  refine q_kV (M2 := m_X12_usedPlaces) (As := []) (b := 400) (v2 := some (.int r7)) ok_X12_digestOfCounts ok_X12_usedPlaces cv_X12_usedPlaces (ct_X12_usedPlaces_400 (d := 1) (Nat.le_refl _) hr7) rfl rfl (Or.inl rfl) rfl rfl rfl rfl (Nat.le_trans (Nat.le_of_ble_eq_true rfl) hd) (Nat.le_of_ble_eq_true rfl) (Nat.le_of_ble_eq_true rfl) (Nat.le_of_ble_eq_true rfl) (fun x hx => absurd hx List.not_mem_nil) (q_nmL0 _) (q_nmS0 _) rfl (pos' := 55) (st' := [.int r7, .long ((((((((((((((971 : Int64) * (31 : Int64)) + r1.toInt64) * (31 : Int64)) + r2.toInt64) * (31 : Int64)) + r3.toInt64) * (31 : Int64)) + r4.toInt64) * (31 : Int64)) + r5.toInt64) * (31 : Int64)) + r6.toInt64) * (31 : Int64))]) (lI' := []) (lE' := []) rfl rfl rfl rfl ?_
  refine q_blk 7 [] (c' := q_kc (t, r, m, z, N, ext, rx, L) I E 62 [some (.ref 400), some (.long (((((((((((((((971 : Int64) * (31 : Int64)) + r1.toInt64) * (31 : Int64)) + r2.toInt64) * (31 : Int64)) + r3.toInt64) * (31 : Int64)) + r4.toInt64) * (31 : Int64)) + r5.toInt64) * (31 : Int64)) + r6.toInt64) * (31 : Int64)) + r7.toInt64)), none] [.ref 400, .long ((((((((((((((((971 : Int64) * (31 : Int64)) + r1.toInt64) * (31 : Int64)) + r2.toInt64) * (31 : Int64)) + r3.toInt64) * (31 : Int64)) + r4.toInt64) * (31 : Int64)) + r5.toInt64) * (31 : Int64)) + r6.toInt64) * (31 : Int64)) + r7.toInt64) * (31 : Int64))] [] []) ok_X12_digestOfCounts rfl q_cn ?_
  obtain ⟨r8, hr8, hf⟩ := q_bd hf
  refine q_kV (M2 := m_X12_usedInLoft) (As := []) (b := 400) (v2 := some (.int r8)) ok_X12_digestOfCounts ok_X12_usedInLoft cv_X12_usedInLoft (ct_X12_usedInLoft_400 (d := 3) (Nat.le_refl _) hr8) rfl rfl (Or.inl rfl) rfl rfl rfl rfl (Nat.le_trans (Nat.le_of_ble_eq_true rfl) hd) (Nat.le_of_ble_eq_true rfl) (Nat.le_of_ble_eq_true rfl) (Nat.le_of_ble_eq_true rfl) (fun x hx => absurd hx List.not_mem_nil) (q_nmL0 _) (q_nmS0 _) rfl (pos' := 63) (st' := [.int r8, .long ((((((((((((((((971 : Int64) * (31 : Int64)) + r1.toInt64) * (31 : Int64)) + r2.toInt64) * (31 : Int64)) + r3.toInt64) * (31 : Int64)) + r4.toInt64) * (31 : Int64)) + r5.toInt64) * (31 : Int64)) + r6.toInt64) * (31 : Int64)) + r7.toInt64) * (31 : Int64))]) (lI' := []) (lE' := []) rfl rfl rfl rfl ?_
  refine q_blk 7 [] (c' := q_kc (t, r, m, z, N, ext, rx, L) I E 70 [some (.ref 400), some (.long (((((((((((((((((971 : Int64) * (31 : Int64)) + r1.toInt64) * (31 : Int64)) + r2.toInt64) * (31 : Int64)) + r3.toInt64) * (31 : Int64)) + r4.toInt64) * (31 : Int64)) + r5.toInt64) * (31 : Int64)) + r6.toInt64) * (31 : Int64)) + r7.toInt64) * (31 : Int64)) + r8.toInt64)), none] [.ref 400, .long ((((((((((((((((((971 : Int64) * (31 : Int64)) + r1.toInt64) * (31 : Int64)) + r2.toInt64) * (31 : Int64)) + r3.toInt64) * (31 : Int64)) + r4.toInt64) * (31 : Int64)) + r5.toInt64) * (31 : Int64)) + r6.toInt64) * (31 : Int64)) + r7.toInt64) * (31 : Int64)) + r8.toInt64) * (31 : Int64))] [] []) ok_X12_digestOfCounts rfl q_cn ?_
  obtain ⟨r9, hr9, hf⟩ := q_bd hf
  refine q_kV (M2 := m_X12_longestGap) (As := []) (b := 400) (v2 := some (.int r9)) ok_X12_digestOfCounts ok_X12_longestGap cv_X12_longestGap (ct_X12_longestGap_400 (d := 3) (Nat.le_refl _) hr9) rfl rfl (Or.inl rfl) rfl rfl rfl rfl (Nat.le_trans (Nat.le_of_ble_eq_true rfl) hd) (Nat.le_of_ble_eq_true rfl) (Nat.le_of_ble_eq_true rfl) (Nat.le_of_ble_eq_true rfl) (fun x hx => absurd hx List.not_mem_nil) (q_nmL0 _) (q_nmS0 _) rfl (pos' := 71) (st' := [.int r9, .long ((((((((((((((((((971 : Int64) * (31 : Int64)) + r1.toInt64) * (31 : Int64)) + r2.toInt64) * (31 : Int64)) + r3.toInt64) * (31 : Int64)) + r4.toInt64) * (31 : Int64)) + r5.toInt64) * (31 : Int64)) + r6.toInt64) * (31 : Int64)) + r7.toInt64) * (31 : Int64)) + r8.toInt64) * (31 : Int64))]) (lI' := []) (lE' := []) rfl rfl rfl rfl ?_
  refine q_blk 7 [] (c' := q_kc (t, r, m, z, N, ext, rx, L) I E 78 [some (.ref 400), some (.long (((((((((((((((((((971 : Int64) * (31 : Int64)) + r1.toInt64) * (31 : Int64)) + r2.toInt64) * (31 : Int64)) + r3.toInt64) * (31 : Int64)) + r4.toInt64) * (31 : Int64)) + r5.toInt64) * (31 : Int64)) + r6.toInt64) * (31 : Int64)) + r7.toInt64) * (31 : Int64)) + r8.toInt64) * (31 : Int64)) + r9.toInt64)), none] [.ref 400, .long ((((((((((((((((((((971 : Int64) * (31 : Int64)) + r1.toInt64) * (31 : Int64)) + r2.toInt64) * (31 : Int64)) + r3.toInt64) * (31 : Int64)) + r4.toInt64) * (31 : Int64)) + r5.toInt64) * (31 : Int64)) + r6.toInt64) * (31 : Int64)) + r7.toInt64) * (31 : Int64)) + r8.toInt64) * (31 : Int64)) + r9.toInt64) * (31 : Int64))] [] []) ok_X12_digestOfCounts rfl q_cn ?_
  obtain ⟨r10, hr10, hf⟩ := q_bd hf
  refine q_kV (M2 := m_X12_bales) (As := []) (b := 400) (v2 := some (.int r10)) ok_X12_digestOfCounts ok_X12_bales cv_X12_bales (ct_X12_bales_400 (d := 2) (Nat.le_refl _) hr10) rfl rfl (Or.inl rfl) rfl rfl rfl rfl (Nat.le_trans (Nat.le_of_ble_eq_true rfl) hd) (Nat.le_of_ble_eq_true rfl) (Nat.le_of_ble_eq_true rfl) (Nat.le_of_ble_eq_true rfl) (fun x hx => absurd hx List.not_mem_nil) (q_nmL0 _) (q_nmS0 _) rfl (pos' := 79) (st' := [.int r10, .long ((((((((((((((((((((971 : Int64) * (31 : Int64)) + r1.toInt64) * (31 : Int64)) + r2.toInt64) * (31 : Int64)) + r3.toInt64) * (31 : Int64)) + r4.toInt64) * (31 : Int64)) + r5.toInt64) * (31 : Int64)) + r6.toInt64) * (31 : Int64)) + r7.toInt64) * (31 : Int64)) + r8.toInt64) * (31 : Int64)) + r9.toInt64) * (31 : Int64))]) (lI' := []) (lE' := []) rfl rfl rfl rfl ?_
  refine q_blk 7 [] (c' := q_kc (t, r, m, z, N, ext, rx, L) I E 86 [some (.ref 400), some (.long (((((((((((((((((((((971 : Int64) * (31 : Int64)) + r1.toInt64) * (31 : Int64)) + r2.toInt64) * (31 : Int64)) + r3.toInt64) * (31 : Int64)) + r4.toInt64) * (31 : Int64)) + r5.toInt64) * (31 : Int64)) + r6.toInt64) * (31 : Int64)) + r7.toInt64) * (31 : Int64)) + r8.toInt64) * (31 : Int64)) + r9.toInt64) * (31 : Int64)) + r10.toInt64)), none] [.ref 400, .long ((((((((((((((((((((((971 : Int64) * (31 : Int64)) + r1.toInt64) * (31 : Int64)) + r2.toInt64) * (31 : Int64)) + r3.toInt64) * (31 : Int64)) + r4.toInt64) * (31 : Int64)) + r5.toInt64) * (31 : Int64)) + r6.toInt64) * (31 : Int64)) + r7.toInt64) * (31 : Int64)) + r8.toInt64) * (31 : Int64)) + r9.toInt64) * (31 : Int64)) + r10.toInt64) * (31 : Int64))] [] []) ok_X12_digestOfCounts rfl q_cn ?_
  obtain ⟨r11, hr11, hf⟩ := q_bd hf
  refine q_kV (M2 := m_X12_balesInLoft) (As := []) (b := 400) (v2 := some (.int r11)) ok_X12_digestOfCounts ok_X12_balesInLoft cv_X12_balesInLoft (ct_X12_balesInLoft_400 (d := 1) (Nat.le_refl _) hr11) rfl rfl (Or.inl rfl) rfl rfl rfl rfl (Nat.le_trans (Nat.le_of_ble_eq_true rfl) hd) (Nat.le_of_ble_eq_true rfl) (Nat.le_of_ble_eq_true rfl) (Nat.le_of_ble_eq_true rfl) (fun x hx => absurd hx List.not_mem_nil) (q_nmL0 _) (q_nmS0 _) rfl (pos' := 87) (st' := [.int r11, .long ((((((((((((((((((((((971 : Int64) * (31 : Int64)) + r1.toInt64) * (31 : Int64)) + r2.toInt64) * (31 : Int64)) + r3.toInt64) * (31 : Int64)) + r4.toInt64) * (31 : Int64)) + r5.toInt64) * (31 : Int64)) + r6.toInt64) * (31 : Int64)) + r7.toInt64) * (31 : Int64)) + r8.toInt64) * (31 : Int64)) + r9.toInt64) * (31 : Int64)) + r10.toInt64) * (31 : Int64))]) (lI' := []) (lE' := []) rfl rfl rfl rfl ?_
  refine q_blk 8 [] (c' := q_kc (t, r, m, z, N, ext, rx, L) I E 95 [some (.ref 400), some (.long (((((((((((((((((((((((971 : Int64) * (31 : Int64)) + r1.toInt64) * (31 : Int64)) + r2.toInt64) * (31 : Int64)) + r3.toInt64) * (31 : Int64)) + r4.toInt64) * (31 : Int64)) + r5.toInt64) * (31 : Int64)) + r6.toInt64) * (31 : Int64)) + r7.toInt64) * (31 : Int64)) + r8.toInt64) * (31 : Int64)) + r9.toInt64) * (31 : Int64)) + r10.toInt64) * (31 : Int64)) + r11.toInt64)), none] [.ref 457, .long ((((((((((((((((((((((((971 : Int64) * (31 : Int64)) + r1.toInt64) * (31 : Int64)) + r2.toInt64) * (31 : Int64)) + r3.toInt64) * (31 : Int64)) + r4.toInt64) * (31 : Int64)) + r5.toInt64) * (31 : Int64)) + r6.toInt64) * (31 : Int64)) + r7.toInt64) * (31 : Int64)) + r8.toInt64) * (31 : Int64)) + r9.toInt64) * (31 : Int64)) + r10.toInt64) * (31 : Int64)) + r11.toInt64) * (31 : Int64))] [] []) ok_X12_digestOfCounts rfl q_cn ?_
  obtain ⟨r12, hr12, hf⟩ := q_bd hf
  refine q_kV (M2 := m_X2_uselessCount) (As := []) (b := 457) (v2 := some (.int r12.1)) ok_X12_digestOfCounts ok_X2_uselessCount cv_X2_uselessCount (ct_X2_uselessCount_457 (d := 5) (Nat.le_refl _) hr12) rfl rfl (Or.inl rfl) rfl rfl rfl rfl (Nat.le_trans (Nat.le_of_ble_eq_true rfl) hd) (Nat.le_of_ble_eq_true rfl) (Nat.le_of_ble_eq_true rfl) (Nat.le_of_ble_eq_true rfl) (fun x hx => absurd hx List.not_mem_nil) (q_nmL0 _) (q_nmS0 _) rfl (pos' := 96) (st' := [.int r12.1, .long ((((((((((((((((((((((((971 : Int64) * (31 : Int64)) + r1.toInt64) * (31 : Int64)) + r2.toInt64) * (31 : Int64)) + r3.toInt64) * (31 : Int64)) + r4.toInt64) * (31 : Int64)) + r5.toInt64) * (31 : Int64)) + r6.toInt64) * (31 : Int64)) + r7.toInt64) * (31 : Int64)) + r8.toInt64) * (31 : Int64)) + r9.toInt64) * (31 : Int64)) + r10.toInt64) * (31 : Int64)) + r11.toInt64) * (31 : Int64))]) (lI' := [(467, r12.2.1), (468, r12.2.2.1), (469, r12.2.2.2)]) (lE' := []) rfl rfl rfl rfl ?_
  refine q_blk 7 [] (c' := q_kc (t, r, m, z, N, ext, rx, L) I E 103 [some (.ref 400), some (.long (((((((((((((((((((((((((971 : Int64) * (31 : Int64)) + r1.toInt64) * (31 : Int64)) + r2.toInt64) * (31 : Int64)) + r3.toInt64) * (31 : Int64)) + r4.toInt64) * (31 : Int64)) + r5.toInt64) * (31 : Int64)) + r6.toInt64) * (31 : Int64)) + r7.toInt64) * (31 : Int64)) + r8.toInt64) * (31 : Int64)) + r9.toInt64) * (31 : Int64)) + r10.toInt64) * (31 : Int64)) + r11.toInt64) * (31 : Int64)) + r12.1.toInt64)), none] [.ref 400, .long ((((((((((((((((((((((((((971 : Int64) * (31 : Int64)) + r1.toInt64) * (31 : Int64)) + r2.toInt64) * (31 : Int64)) + r3.toInt64) * (31 : Int64)) + r4.toInt64) * (31 : Int64)) + r5.toInt64) * (31 : Int64)) + r6.toInt64) * (31 : Int64)) + r7.toInt64) * (31 : Int64)) + r8.toInt64) * (31 : Int64)) + r9.toInt64) * (31 : Int64)) + r10.toInt64) * (31 : Int64)) + r11.toInt64) * (31 : Int64)) + r12.1.toInt64) * (31 : Int64))] [(467, r12.2.1), (468, r12.2.2.1), (469, r12.2.2.2)] []) ok_X12_digestOfCounts rfl q_cn ?_
  obtain ⟨r13, hr13, hf⟩ := q_bd hf
  refine q_kV (M2 := m_X12_copyings) (As := []) (b := 400) (v2 := some (.int r13)) ok_X12_digestOfCounts ok_X12_copyings cv_X12_copyings (ct_X12_copyings_400 (d := 1) (Nat.le_refl _) hr13) rfl rfl (Or.inl rfl) rfl rfl rfl rfl (Nat.le_trans (Nat.le_of_ble_eq_true rfl) hd) (Nat.le_of_ble_eq_true rfl) (Nat.le_of_ble_eq_true rfl) (Nat.le_of_ble_eq_true rfl) (fun x hx => absurd hx List.not_mem_nil) (q_nmL0 _) (q_nmS0 _) rfl (pos' := 104) (st' := [.int r13, .long ((((((((((((((((((((((((((971 : Int64) * (31 : Int64)) + r1.toInt64) * (31 : Int64)) + r2.toInt64) * (31 : Int64)) + r3.toInt64) * (31 : Int64)) + r4.toInt64) * (31 : Int64)) + r5.toInt64) * (31 : Int64)) + r6.toInt64) * (31 : Int64)) + r7.toInt64) * (31 : Int64)) + r8.toInt64) * (31 : Int64)) + r9.toInt64) * (31 : Int64)) + r10.toInt64) * (31 : Int64)) + r11.toInt64) * (31 : Int64)) + r12.1.toInt64) * (31 : Int64))]) (lI' := [(467, r12.2.1), (468, r12.2.2.1), (469, r12.2.2.2)]) (lE' := []) rfl rfl rfl rfl ?_
  refine q_blk 7 [] (c' := q_kc (t, r, m, z, N, ext, rx, L) I E 111 [some (.ref 400), some (.long (((((((((((((((((((((((((((971 : Int64) * (31 : Int64)) + r1.toInt64) * (31 : Int64)) + r2.toInt64) * (31 : Int64)) + r3.toInt64) * (31 : Int64)) + r4.toInt64) * (31 : Int64)) + r5.toInt64) * (31 : Int64)) + r6.toInt64) * (31 : Int64)) + r7.toInt64) * (31 : Int64)) + r8.toInt64) * (31 : Int64)) + r9.toInt64) * (31 : Int64)) + r10.toInt64) * (31 : Int64)) + r11.toInt64) * (31 : Int64)) + r12.1.toInt64) * (31 : Int64)) + r13.toInt64)), none] [.ref 400, .long ((((((((((((((((((((((((((((971 : Int64) * (31 : Int64)) + r1.toInt64) * (31 : Int64)) + r2.toInt64) * (31 : Int64)) + r3.toInt64) * (31 : Int64)) + r4.toInt64) * (31 : Int64)) + r5.toInt64) * (31 : Int64)) + r6.toInt64) * (31 : Int64)) + r7.toInt64) * (31 : Int64)) + r8.toInt64) * (31 : Int64)) + r9.toInt64) * (31 : Int64)) + r10.toInt64) * (31 : Int64)) + r11.toInt64) * (31 : Int64)) + r12.1.toInt64) * (31 : Int64)) + r13.toInt64) * (31 : Int64))] [(467, r12.2.1), (468, r12.2.2.1), (469, r12.2.2.2)] []) ok_X12_digestOfCounts rfl q_cn ?_
  obtain ⟨r14, hr14, hf⟩ := q_bd hf
  refine q_kV (M2 := m_X12_balesPromoted) (As := []) (b := 400) (v2 := some (.int r14)) ok_X12_digestOfCounts ok_X12_balesPromoted cv_X12_balesPromoted (ct_X12_balesPromoted_400 (d := 1) (Nat.le_refl _) hr14) rfl rfl (Or.inl rfl) rfl rfl rfl rfl (Nat.le_trans (Nat.le_of_ble_eq_true rfl) hd) (Nat.le_of_ble_eq_true rfl) (Nat.le_of_ble_eq_true rfl) (Nat.le_of_ble_eq_true rfl) (fun x hx => absurd hx List.not_mem_nil) (q_nmL0 _) (q_nmS0 _) rfl (pos' := 112) (st' := [.int r14, .long ((((((((((((((((((((((((((((971 : Int64) * (31 : Int64)) + r1.toInt64) * (31 : Int64)) + r2.toInt64) * (31 : Int64)) + r3.toInt64) * (31 : Int64)) + r4.toInt64) * (31 : Int64)) + r5.toInt64) * (31 : Int64)) + r6.toInt64) * (31 : Int64)) + r7.toInt64) * (31 : Int64)) + r8.toInt64) * (31 : Int64)) + r9.toInt64) * (31 : Int64)) + r10.toInt64) * (31 : Int64)) + r11.toInt64) * (31 : Int64)) + r12.1.toInt64) * (31 : Int64)) + r13.toInt64) * (31 : Int64))]) (lI' := [(467, r12.2.1), (468, r12.2.2.1), (469, r12.2.2.2)]) (lE' := []) rfl rfl rfl rfl ?_
  refine q_blk 7 [] (c' := q_kc (t, r, m, z, N, ext, rx, L) I E 119 [some (.ref 400), some (.long (((((((((((((((((((((((((((((971 : Int64) * (31 : Int64)) + r1.toInt64) * (31 : Int64)) + r2.toInt64) * (31 : Int64)) + r3.toInt64) * (31 : Int64)) + r4.toInt64) * (31 : Int64)) + r5.toInt64) * (31 : Int64)) + r6.toInt64) * (31 : Int64)) + r7.toInt64) * (31 : Int64)) + r8.toInt64) * (31 : Int64)) + r9.toInt64) * (31 : Int64)) + r10.toInt64) * (31 : Int64)) + r11.toInt64) * (31 : Int64)) + r12.1.toInt64) * (31 : Int64)) + r13.toInt64) * (31 : Int64)) + r14.toInt64)), none] [.ref 400, .long ((((((((((((((((((((((((((((((971 : Int64) * (31 : Int64)) + r1.toInt64) * (31 : Int64)) + r2.toInt64) * (31 : Int64)) + r3.toInt64) * (31 : Int64)) + r4.toInt64) * (31 : Int64)) + r5.toInt64) * (31 : Int64)) + r6.toInt64) * (31 : Int64)) + r7.toInt64) * (31 : Int64)) + r8.toInt64) * (31 : Int64)) + r9.toInt64) * (31 : Int64)) + r10.toInt64) * (31 : Int64)) + r11.toInt64) * (31 : Int64)) + r12.1.toInt64) * (31 : Int64)) + r13.toInt64) * (31 : Int64)) + r14.toInt64) * (31 : Int64))] [(467, r12.2.1), (468, r12.2.2.1), (469, r12.2.2.2)] []) ok_X12_digestOfCounts rfl q_cn ?_
  obtain ⟨r15, hr15, hf⟩ := q_bd hf
  refine q_kV (M2 := m_X12_balesGone) (As := []) (b := 400) (v2 := some (.int r15)) ok_X12_digestOfCounts ok_X12_balesGone cv_X12_balesGone (ct_X12_balesGone_400 (d := 1) (Nat.le_refl _) hr15) rfl rfl (Or.inl rfl) rfl rfl rfl rfl (Nat.le_trans (Nat.le_of_ble_eq_true rfl) hd) (Nat.le_of_ble_eq_true rfl) (Nat.le_of_ble_eq_true rfl) (Nat.le_of_ble_eq_true rfl) (fun x hx => absurd hx List.not_mem_nil) (q_nmL0 _) (q_nmS0 _) rfl (pos' := 120) (st' := [.int r15, .long ((((((((((((((((((((((((((((((971 : Int64) * (31 : Int64)) + r1.toInt64) * (31 : Int64)) + r2.toInt64) * (31 : Int64)) + r3.toInt64) * (31 : Int64)) + r4.toInt64) * (31 : Int64)) + r5.toInt64) * (31 : Int64)) + r6.toInt64) * (31 : Int64)) + r7.toInt64) * (31 : Int64)) + r8.toInt64) * (31 : Int64)) + r9.toInt64) * (31 : Int64)) + r10.toInt64) * (31 : Int64)) + r11.toInt64) * (31 : Int64)) + r12.1.toInt64) * (31 : Int64)) + r13.toInt64) * (31 : Int64)) + r14.toInt64) * (31 : Int64))]) (lI' := [(467, r12.2.1), (468, r12.2.2.1), (469, r12.2.2.2)]) (lE' := []) rfl rfl rfl rfl ?_
  refine q_blk 2 [] (c' := q_kc (t, r, m, z, N, ext, rx, L) I E 122 [some (.ref 400), some (.long (((((((((((((((((((((((((((((971 : Int64) * (31 : Int64)) + r1.toInt64) * (31 : Int64)) + r2.toInt64) * (31 : Int64)) + r3.toInt64) * (31 : Int64)) + r4.toInt64) * (31 : Int64)) + r5.toInt64) * (31 : Int64)) + r6.toInt64) * (31 : Int64)) + r7.toInt64) * (31 : Int64)) + r8.toInt64) * (31 : Int64)) + r9.toInt64) * (31 : Int64)) + r10.toInt64) * (31 : Int64)) + r11.toInt64) * (31 : Int64)) + r12.1.toInt64) * (31 : Int64)) + r13.toInt64) * (31 : Int64)) + r14.toInt64)), none] [.long (((((((((((((((((((((((((((((((971 : Int64) * (31 : Int64)) + r1.toInt64) * (31 : Int64)) + r2.toInt64) * (31 : Int64)) + r3.toInt64) * (31 : Int64)) + r4.toInt64) * (31 : Int64)) + r5.toInt64) * (31 : Int64)) + r6.toInt64) * (31 : Int64)) + r7.toInt64) * (31 : Int64)) + r8.toInt64) * (31 : Int64)) + r9.toInt64) * (31 : Int64)) + r10.toInt64) * (31 : Int64)) + r11.toInt64) * (31 : Int64)) + r12.1.toInt64) * (31 : Int64)) + r13.toInt64) * (31 : Int64)) + r14.toInt64) * (31 : Int64)) + r15.toInt64)] [(467, r12.2.1), (468, r12.2.2.1), (469, r12.2.2.2)] []) ok_X12_digestOfCounts rfl q_cn ?_
  cases hf
  exact q_krl ok_X12_digestOfCounts rfl rfl (Nat.le_of_ble_eq_true rfl) (Nat.le_of_ble_eq_true rfl) ⟨rfl, q_hpe (q_fin [467, 468, 469] rfl) (q_fin [] rfl)⟩
set_option maxHeartbeats 4000000 in
theorem ct_X2_inRow_457 {g : q_G} {t : Nat} {r : Nat} {m : Nat} {z : Nat} {N : Nat} {ext : Nat → q_Sh} {rx : Nat → Nat → Option Nat} {L : Nat → Nat → Int64} {d : Nat} (hd : 1 ≤ d)  {I : Nat → Nat → Int32} {E : Nat → Nat → Option Nat} {x1 : Int32} {r0 : Int32} (hf : f_X2_inRow (I 457) (I 471) x1 = some r0) : q_Ct g m_X2_inRow d 0 0 [] [.ref 457, .int x1] (q_hp (t, r, m, z, N, ext, rx, L) I E) (fun o h' => o = .inl (some (.int r0)) ∧ h' = q_hp (t, r, m, z, N, ext, rx, L) (q_ws I []) (q_ws E [])) := by
  rw [f_X2_inRow] at hf
  refine q_Ct_of ok_X2_inRow (Nat.le_of_ble_eq_true rfl) ?_ _ rfl rfl
  change q_J g m_X2_inRow d 0 0 _ [] _ 0 0 (q_kc (t, r, m, z, N, ext, rx, L) I E 0 [some (.ref 457), some (.int x1)] [] [] [])
  refine q_blf 1 [] (a := q_kc (t, r, m, z, N, ext, rx, L) I E 14 [some (.ref 457), some (.int x1)] [] [] []) (b := q_kc (t, r, m, z, N, ext, rx, L) I E 2 [some (.ref 457), some (.int x1)] [] [] []) (P := x1 < 0) ok_X2_inRow rfl q_cn (fun h1 => ?_) (fun h1 => ?_)
  · have hf := q_ip h1 hf
    refine q_blk 1 [] (c' := q_kc (t, r, m, z, N, ext, rx, L) I E 15 [some (.ref 457), some (.int x1)] [.int (-1 : Int32)] [] []) ok_X2_inRow rfl q_cn ?_
    cases hf
    exact q_kri ok_X2_inRow rfl rfl rfl (Nat.le_of_ble_eq_true rfl) (Nat.le_of_ble_eq_true rfl) ⟨rfl, q_hpe (q_fin [] rfl) (q_fin [] rfl)⟩
  · have hf := q_in h1 hf
    refine q_blf 3 [] (a := q_kc (t, r, m, z, N, ext, rx, L) I E 14 [some (.ref 457), some (.int x1)] [] [] []) (b := q_kc (t, r, m, z, N, ext, rx, L) I E 6 [some (.ref 457), some (.int x1)] [] [] []) (P := ((I 457) 7) ≤ x1) ok_X2_inRow rfl q_cn (fun h2 => ?_) (fun h2 => ?_)
    · have hf := q_ip h2 hf
      refine q_blk 1 [] (c' := q_kc (t, r, m, z, N, ext, rx, L) I E 15 [some (.ref 457), some (.int x1)] [.int (-1 : Int32)] [] []) ok_X2_inRow rfl q_cn ?_
      cases hf
      exact q_kri ok_X2_inRow rfl rfl rfl (Nat.le_of_ble_eq_true rfl) (Nat.le_of_ble_eq_true rfl) ⟨rfl, q_hpe (q_fin [] rfl) (q_fin [] rfl)⟩
    · have hf := q_in h2 hf
      refine q_blf 2 [] (a := q_kc (t, r, m, z, N, ext, rx, L) I E 14 [some (.ref 457), some (.int x1)] [] [] []) (b := q_kc (t, r, m, z, N, ext, rx, L) I E 9 [some (.ref 457), some (.int x1)] [] [] []) (P := (64 : Int32) ≤ x1) ok_X2_inRow rfl q_cn (fun h3 => ?_) (fun h3 => ?_)
      · have hf := q_ip h3 hf
        refine q_blk 1 [] (c' := q_kc (t, r, m, z, N, ext, rx, L) I E 15 [some (.ref 457), some (.int x1)] [.int (-1 : Int32)] [] []) ok_X2_inRow rfl q_cn ?_
        cases hf
        exact q_kri ok_X2_inRow rfl rfl rfl (Nat.le_of_ble_eq_true rfl) (Nat.le_of_ble_eq_true rfl) ⟨rfl, q_hpe (q_fin [] rfl) (q_fin [] rfl)⟩
      · have hf := q_in h3 hf
        obtain ⟨j4, hj4, hf⟩ := q_bd hf
        refine q_blk 5 [j4] (c' := q_kc (t, r, m, z, N, ext, rx, L) I E 15 [some (.ref 457), some (.int x1)] [.int ((I 471) j4)] [] []) ok_X2_inRow rfl (q_cc hj4 q_cn) ?_
        cases hf
        exact q_kri ok_X2_inRow rfl rfl rfl (Nat.le_of_ble_eq_true rfl) (Nat.le_of_ble_eq_true rfl) ⟨rfl, q_hpe (q_fin [] rfl) (q_fin [] rfl)⟩
set_option maxHeartbeats 4000000 in
theorem ct_X12_digestOfLead_400 {g : q_G} {t : Nat} {r : Nat} {m : Nat} {z : Nat} {N : Nat} {ext : Nat → q_Sh} {rx : Nat → Nat → Option Nat} {L : Nat → Nat → Int64} {d : Nat} (hd : 2 ≤ d)  {I : Nat → Nat → Int32} {E : Nat → Nat → Option Nat} {x1 : Int32} {r0 : Int32} (hf : f_X12_digestOfLead (I 459) (I 460) x1 = some r0) : q_Ct g m_X12_digestOfLead d 0 0 [] [.ref 400, .int x1] (q_hp (t, r, m, z, N, ext, rx, L) I E) (fun o h' => o = .inl (some (.int r0)) ∧ h' = q_hp (t, r, m, z, N, ext, rx, L) (q_ws I []) (q_ws E [])) := by
  rw [f_X12_digestOfLead] at hf
  refine q_Ct_of ok_X12_digestOfLead (Nat.le_of_ble_eq_true rfl) ?_ _ rfl rfl
  change q_J g m_X12_digestOfLead d 0 0 _ [] _ 0 0 (q_kc (t, r, m, z, N, ext, rx, L) I E 0 [some (.ref 400), some (.int x1), none] [] [] [])
  refine q_blf 2 [] (a := q_kc (t, r, m, z, N, ext, rx, L) I E 5 [some (.ref 400), some (.int x1), none] [] [] []) (b := q_kc (t, r, m, z, N, ext, rx, L) I E 3 [some (.ref 400), some (.int x1), none] [] [] []) (P := ¬ x1 = (-1 : Int32)) ok_X12_digestOfLead rfl q_cn (fun h1 => ?_) (fun h1 => ?_)
  · have hf := q_ip h1 hf
    refine q_blk 5 [] (c' := q_kc (t, r, m, z, N, ext, rx, L) I E 10 [some (.ref 400), some (.int x1), none] [.int x1, .ref 458, .int (1 : Int32)] [] []) ok_X12_digestOfLead rfl q_cn ?_
    obtain ⟨r2, hr2, hf⟩ := q_bd hf
    refine q_kV (M2 := m_X1_place) (As := [.int x1]) (b := 458) (v2 := some (.int r2)) ok_X12_digestOfLead ok_X1_place cv_X1_place (ct_X1_place_458 (d := 1) (Nat.le_refl _) hr2) rfl rfl (Or.inl rfl) rfl rfl rfl rfl (Nat.le_trans (Nat.le_of_ble_eq_true rfl) hd) (Nat.le_of_ble_eq_true rfl) (Nat.le_of_ble_eq_true rfl) (Nat.le_of_ble_eq_true rfl) (fun x hx => absurd hx List.not_mem_nil) (q_nmL0 _) (q_nmS0 _) rfl (pos' := 11) (st' := [.int r2, .int (1 : Int32)]) (lI' := []) (lE' := []) rfl rfl rfl rfl ?_
    refine q_blk 6 [] (c' := q_kc (t, r, m, z, N, ext, rx, L) I E 17 [some (.ref 400), some (.int x1), some (.int ((1 : Int32) + r2))] [.int x1, .ref 458] [] []) ok_X12_digestOfLead rfl q_cn ?_
    obtain ⟨r3, hr3, hf⟩ := q_bd hf
    refine q_kV (M2 := m_X1_liesInLoft) (As := [.int x1]) (b := 458) (v2 := some (.int (q_bz r3))) ok_X12_digestOfLead ok_X1_liesInLoft cv_X1_liesInLoft (ct_X1_liesInLoft_458 (d := 1) (Nat.le_refl _) hr3) rfl rfl (Or.inl rfl) rfl rfl rfl rfl (Nat.le_trans (Nat.le_of_ble_eq_true rfl) hd) (Nat.le_of_ble_eq_true rfl) (Nat.le_of_ble_eq_true rfl) (Nat.le_of_ble_eq_true rfl) (fun x hx => absurd hx List.not_mem_nil) (q_nmL0 _) (q_nmS0 _) rfl (pos' := 18) (st' := [.int (q_bz r3)]) (lI' := []) (lE' := []) rfl rfl rfl rfl ?_
    refine q_blf 0 [] (a := q_kc (t, r, m, z, N, ext, rx, L) I E 23 [some (.ref 400), some (.int x1), some (.int ((1 : Int32) + r2))] [] [] []) (b := q_kc (t, r, m, z, N, ext, rx, L) I E 19 [some (.ref 400), some (.int x1), some (.int ((1 : Int32) + r2))] [] [] []) (P := (q_bz r3) = 0) ok_X12_digestOfLead rfl q_cn (fun h4 => ?_) (fun h4 => ?_)
    · have hf := q_ip h4 hf
      refine q_blk 1 [] (c' := q_kc (t, r, m, z, N, ext, rx, L) I E 24 [some (.ref 400), some (.int x1), some (.int ((1 : Int32) + r2))] [.int ((1 : Int32) + r2)] [] []) ok_X12_digestOfLead rfl q_cn ?_
      cases hf
      exact q_kri ok_X12_digestOfLead rfl rfl rfl (Nat.le_of_ble_eq_true rfl) (Nat.le_of_ble_eq_true rfl) ⟨rfl, q_hpe (q_fin [] rfl) (q_fin [] rfl)⟩
    · have hf := q_in h4 hf
      refine q_blk 4 [] (c' := q_kc (t, r, m, z, N, ext, rx, L) I E 24 [some (.ref 400), some (.int x1), some (.int ((1 : Int32) + r2))] [.int (((1 : Int32) + r2) + (100 : Int32))] [] []) ok_X12_digestOfLead rfl q_cn ?_
      cases hf
      exact q_kri ok_X12_digestOfLead rfl rfl rfl (Nat.le_of_ble_eq_true rfl) (Nat.le_of_ble_eq_true rfl) ⟨rfl, q_hpe (q_fin [] rfl) (q_fin [] rfl)⟩
  · have hf := q_in h1 hf
    refine q_blk 1 [] (c' := q_kc (t, r, m, z, N, ext, rx, L) I E 4 [some (.ref 400), some (.int x1), none] [.int (0 : Int32)] [] []) ok_X12_digestOfLead rfl q_cn ?_
    cases hf
    exact q_kri ok_X12_digestOfLead rfl rfl rfl (Nat.le_of_ble_eq_true rfl) (Nat.le_of_ble_eq_true rfl) ⟨rfl, q_hpe (q_fin [] rfl) (q_fin [] rfl)⟩
set_option maxHeartbeats 4000000 in
theorem lp_X12_digestWithBale_L44_400 {g : q_G} {d mc ms : Nat} {h0 : q_H} {Q : (Option Value ⊕ String) → q_H → Prop} {k n : Nat} {t : Nat} {r : Nat} {m : Nat} {z : Nat} {N : Nat} {ext : Nat → q_Sh} {rx : Nat → Nat → Option Nat} {L : Nat → Nat → Int64} (hd : 3 ≤ d) (hk : k ≤ mc) (hn : n ≤ ms)  {v3 : Int32} : ∀ (fu : Nat) {I : Nat → Nat → Int32} {E : Nat → Nat → Option Nat} {v5 : Int64} {v7 : Int32} {r0 : Int64} (hf : f_X12_digestWithBale_L44 (I 459) (I 460) (I 463) (I 464) v3 fu v5 v7 = some r0) (hK0 : q_J g m_X12_digestWithBale d mc ms h0 [] Q k n (q_kc (t, r, m, z, N, ext, rx, L) I E 63 [none, none, none, none, none, some (.long r0), none, none] [] [] [])), q_J g m_X12_digestWithBale d mc ms h0 [] Q k n (44, [some (.ref 400), none, none, some (.int v3), some (.ref 458), some (.long v5), none, some (.int v7)], [], q_hp (t, r, m, z, N, ext, rx, L) I E) := by
  intro fu
  induction fu with
  | zero =>
    intro I E v5 v7 r0 hf hK0
    rw [f_X12_digestWithBale_L44] at hf
    cases hf
  | succ fu ih =>
    intro I E v5 v7 r0 hf hK0
    rw [f_X12_digestWithBale_L44] at hf
    change q_J g m_X12_digestWithBale d mc ms h0 [] Q k n (q_kc (t, r, m, z, N, ext, rx, L) I E 44 [some (.ref 400), none, none, some (.int v3), some (.ref 458), some (.long v5), none, some (.int v7)] [] [] [])
    refine q_blk 3 [] (c' := q_kc (t, r, m, z, N, ext, rx, L) I E 47 [some (.ref 400), none, none, some (.int v3), some (.ref 458), some (.long v5), none, some (.int v7)] [.int v3, .ref 458, .int v7] [] []) ok_X12_digestWithBale rfl q_cn ?_
    obtain ⟨r1, hr1, hf⟩ := q_bd hf
    refine q_kV (M2 := m_X1_ropes) (As := [.int v3]) (b := 458) (v2 := some (.int r1)) ok_X12_digestWithBale ok_X1_ropes cv_X1_ropes (ct_X1_ropes_458 (d := 1) (Nat.le_refl _) hr1) rfl rfl (Or.inl rfl) rfl rfl rfl rfl (Nat.le_trans (Nat.le_of_ble_eq_true rfl) hd) hk hn (Nat.le_of_ble_eq_true rfl) (fun x hx => absurd hx List.not_mem_nil) (q_nmL0 _) (q_nmS0 _) rfl (pos' := 48) (st' := [.int r1, .int v7]) (lI' := []) (lE' := []) rfl rfl rfl rfl ?_
    refine q_blf 0 [] (a := q_kc (t, r, m, z, N, ext, rx, L) I E 63 [some (.ref 400), none, none, some (.int v3), some (.ref 458), some (.long v5), none, some (.int v7)] [] [] []) (b := q_kc (t, r, m, z, N, ext, rx, L) I E 49 [some (.ref 400), none, none, some (.int v3), some (.ref 458), some (.long v5), none, some (.int v7)] [] [] []) (P := r1 ≤ v7) ok_X12_digestWithBale rfl q_cn (fun h2 => ?_) (fun h2 => ?_)
    · have hf := q_ip h2 hf
      refine q_less (ls' := [none, none, none, none, none, some (.long v5), none, none]) (q_sb1 (q_sb1 (q_sb1 (q_sb1 (q_sb1 (q_sb2 (q_sb1 (q_sb1 q_sb0)))))))) ?_
      cases hf
      exact q_Jpad [] [] rfl rfl hK0
    · have hf := q_in h2 hf
      refine q_blk 7 [] (c' := q_kc (t, r, m, z, N, ext, rx, L) I E 56 [some (.ref 400), none, none, some (.int v3), some (.ref 458), some (.long v5), none, some (.int v7)] [.int v7, .int v3, .ref 458, .ref 400, .long (v5 * (31 : Int64))] [] []) ok_X12_digestWithBale rfl q_cn ?_
      obtain ⟨r3, hr3, hf⟩ := q_bd hf
      refine q_kV (M2 := m_X1_lead) (As := [.int v3, .int v7]) (b := 458) (v2 := some (.int r3)) ok_X12_digestWithBale ok_X1_lead cv_X1_lead (ct_X1_lead_458 (d := 2) (Nat.le_refl _) hr3) rfl rfl (Or.inl rfl) rfl rfl rfl rfl (Nat.le_trans (Nat.le_of_ble_eq_true rfl) hd) hk hn (Nat.le_of_ble_eq_true rfl) (fun x hx => absurd hx List.not_mem_nil) (q_nmL0 _) (q_nmS0 _) rfl (pos' := 57) (st' := [.int r3, .ref 400, .long (v5 * (31 : Int64))]) (lI' := []) (lE' := []) rfl rfl rfl rfl ?_
      obtain ⟨r4, hr4, hf⟩ := q_bd hf
      refine q_kV (M2 := m_X12_digestOfLead) (As := [.int r3]) (b := 400) (v2 := some (.int r4)) ok_X12_digestWithBale ok_X12_digestOfLead cv_X12_digestOfLead (ct_X12_digestOfLead_400 (d := 2) (Nat.le_refl _) hr4) rfl rfl (Or.inl rfl) rfl rfl rfl rfl (Nat.le_trans (Nat.le_of_ble_eq_true rfl) hd) hk hn (Nat.le_of_ble_eq_true rfl) (fun x hx => absurd hx List.not_mem_nil) (q_nmL0 _) (q_nmS0 _) rfl (pos' := 58) (st' := [.int r4, .long (v5 * (31 : Int64))]) (lI' := []) (lE' := []) rfl rfl rfl rfl ?_
      refine q_blk 5 [] (c' := q_kc (t, r, m, z, N, ext, rx, L) I E 44 [some (.ref 400), none, none, some (.int v3), some (.ref 458), some (.long ((v5 * (31 : Int64)) + r4.toInt64)), none, some (.int (v7 + 1))] [] [] []) ok_X12_digestWithBale rfl q_cn ?_
      exact ih (I := q_ws I []) (E := q_ws E []) hf (q_Jmrg rfl rfl hK0)
set_option maxHeartbeats 4000000 in
theorem ct_X12_digestWithBale_400 {g : q_G} {t : Nat} {r : Nat} {m : Nat} {z : Nat} {N : Nat} {ext : Nat → q_Sh} {rx : Nat → Nat → Option Nat} {L : Nat → Nat → Int64} {d : Nat} (hd : 3 ≤ d)  {I : Nat → Nat → Int32} {E : Nat → Nat → Option Nat} {x1 : Int64} {x2 : Int32} {r0 : Int64} (hf : f_X12_digestWithBale (I 459) (I 460) (I 461) (I 462) (I 463) (I 464) x1 x2 = some r0) : q_Ct g m_X12_digestWithBale d 0 0 [] [.ref 400, .long x1, .int x2] (q_hp (t, r, m, z, N, ext, rx, L) I E) (fun o h' => o = .inl (some (.long r0)) ∧ h' = q_hp (t, r, m, z, N, ext, rx, L) (q_ws I []) (q_ws E [])) := by
  rw [f_X12_digestWithBale] at hf
  refine q_Ct_of ok_X12_digestWithBale (Nat.le_of_ble_eq_true rfl) ?_ _ rfl rfl
  change q_J g m_X12_digestWithBale d 0 0 _ [] _ 0 0 (q_kc (t, r, m, z, N, ext, rx, L) I E 0 [some (.ref 400), some (.long x1), none, some (.int x2), none, none, none, none] [] [] [])
  refine q_blk 11 [] (c' := q_kc (t, r, m, z, N, ext, rx, L) I E 11 [some (.ref 400), some (.long x1), none, some (.int x2), some (.ref 458), some (.long x1), none, none] [.int x2, .ref 458, .long (x1 * (31 : Int64))] [] []) ok_X12_digestWithBale rfl q_cn ?_
  obtain ⟨r5, hr5, hf⟩ := q_bd hf
  refine q_kV (M2 := m_X1_place) (As := [.int x2]) (b := 458) (v2 := some (.int r5)) ok_X12_digestWithBale ok_X1_place cv_X1_place (ct_X1_place_458 (d := 1) (Nat.le_refl _) hr5) rfl rfl (Or.inl rfl) rfl rfl rfl rfl (Nat.le_trans (Nat.le_of_ble_eq_true rfl) hd) (Nat.le_of_ble_eq_true rfl) (Nat.le_of_ble_eq_true rfl) (Nat.le_of_ble_eq_true rfl) (fun x hx => absurd hx List.not_mem_nil) (q_nmL0 _) (q_nmS0 _) rfl (pos' := 12) (st' := [.int r5, .long (x1 * (31 : Int64))]) (lI' := []) (lE' := []) rfl rfl rfl rfl ?_
  refine q_blk 8 [] (c' := q_kc (t, r, m, z, N, ext, rx, L) I E 20 [some (.ref 400), some (.long x1), none, some (.int x2), some (.ref 458), some (.long ((x1 * (31 : Int64)) + r5.toInt64)), none, none] [.int x2, .ref 458, .long (((x1 * (31 : Int64)) + r5.toInt64) * (31 : Int64))] [] []) ok_X12_digestWithBale rfl q_cn ?_
  obtain ⟨r6, hr6, hf⟩ := q_bd hf
  refine q_kV (M2 := m_X1_size) (As := [.int x2]) (b := 458) (v2 := some (.int r6)) ok_X12_digestWithBale ok_X1_size cv_X1_size (ct_X1_size_458 (d := 1) (Nat.le_refl _) hr6) rfl rfl (Or.inl rfl) rfl rfl rfl rfl (Nat.le_trans (Nat.le_of_ble_eq_true rfl) hd) (Nat.le_of_ble_eq_true rfl) (Nat.le_of_ble_eq_true rfl) (Nat.le_of_ble_eq_true rfl) (fun x hx => absurd hx List.not_mem_nil) (q_nmL0 _) (q_nmS0 _) rfl (pos' := 21) (st' := [.int r6, .long (((x1 * (31 : Int64)) + r5.toInt64) * (31 : Int64))]) (lI' := []) (lE' := []) rfl rfl rfl rfl ?_
  refine q_blk 8 [] (c' := q_kc (t, r, m, z, N, ext, rx, L) I E 29 [some (.ref 400), some (.long x1), none, some (.int x2), some (.ref 458), some (.long ((((x1 * (31 : Int64)) + r5.toInt64) * (31 : Int64)) + r6.toInt64)), none, none] [.int x2, .ref 458, .long (((((x1 * (31 : Int64)) + r5.toInt64) * (31 : Int64)) + r6.toInt64) * (31 : Int64))] [] []) ok_X12_digestWithBale rfl q_cn ?_
  obtain ⟨r7, hr7, hf⟩ := q_bd hf
  refine q_kV (M2 := m_X1_age) (As := [.int x2]) (b := 458) (v2 := some (.int r7)) ok_X12_digestWithBale ok_X1_age cv_X1_age (ct_X1_age_458 (d := 1) (Nat.le_refl _) hr7) rfl rfl (Or.inl rfl) rfl rfl rfl rfl (Nat.le_trans (Nat.le_of_ble_eq_true rfl) hd) (Nat.le_of_ble_eq_true rfl) (Nat.le_of_ble_eq_true rfl) (Nat.le_of_ble_eq_true rfl) (fun x hx => absurd hx List.not_mem_nil) (q_nmL0 _) (q_nmS0 _) rfl (pos' := 30) (st' := [.int r7, .long (((((x1 * (31 : Int64)) + r5.toInt64) * (31 : Int64)) + r6.toInt64) * (31 : Int64))]) (lI' := []) (lE' := []) rfl rfl rfl rfl ?_
  refine q_blk 8 [] (c' := q_kc (t, r, m, z, N, ext, rx, L) I E 38 [some (.ref 400), some (.long x1), none, some (.int x2), some (.ref 458), some (.long ((((((x1 * (31 : Int64)) + r5.toInt64) * (31 : Int64)) + r6.toInt64) * (31 : Int64)) + r7.toInt64)), none, none] [.int x2, .ref 458, .long (((((((x1 * (31 : Int64)) + r5.toInt64) * (31 : Int64)) + r6.toInt64) * (31 : Int64)) + r7.toInt64) * (31 : Int64))] [] []) ok_X12_digestWithBale rfl q_cn ?_
  obtain ⟨r8, hr8, hf⟩ := q_bd hf
  refine q_kV (M2 := m_X1_ropes) (As := [.int x2]) (b := 458) (v2 := some (.int r8)) ok_X12_digestWithBale ok_X1_ropes cv_X1_ropes (ct_X1_ropes_458 (d := 1) (Nat.le_refl _) hr8) rfl rfl (Or.inl rfl) rfl rfl rfl rfl (Nat.le_trans (Nat.le_of_ble_eq_true rfl) hd) (Nat.le_of_ble_eq_true rfl) (Nat.le_of_ble_eq_true rfl) (Nat.le_of_ble_eq_true rfl) (fun x hx => absurd hx List.not_mem_nil) (q_nmL0 _) (q_nmS0 _) rfl (pos' := 39) (st' := [.int r8, .long (((((((x1 * (31 : Int64)) + r5.toInt64) * (31 : Int64)) + r6.toInt64) * (31 : Int64)) + r7.toInt64) * (31 : Int64))]) (lI' := []) (lE' := []) rfl rfl rfl rfl ?_
  refine q_blk 5 [] (c' := q_kc (t, r, m, z, N, ext, rx, L) I E 44 [some (.ref 400), some (.long x1), none, some (.int x2), some (.ref 458), some (.long ((((((((x1 * (31 : Int64)) + r5.toInt64) * (31 : Int64)) + r6.toInt64) * (31 : Int64)) + r7.toInt64) * (31 : Int64)) + r8.toInt64)), none, some (.int (0 : Int32))] [] [] []) ok_X12_digestWithBale rfl q_cn ?_
  refine q_less (ls' := [some (.ref 400), none, none, some (.int x2), some (.ref 458), some (.long ((((((((x1 * (31 : Int64)) + r5.toInt64) * (31 : Int64)) + r6.toInt64) * (31 : Int64)) + r7.toInt64) * (31 : Int64)) + r8.toInt64)), none, some (.int (0 : Int32))]) (q_sb2 (q_sb1 (q_sb1 (q_sb2 (q_sb2 (q_sb2 (q_sb1 (q_sb2 q_sb0)))))))) ?_
  obtain ⟨r9, hr9, hf⟩ := q_bd hf
  refine lp_X12_digestWithBale_L44_400 (I := q_ws I []) (E := q_ws E []) hd (Nat.le_of_ble_eq_true rfl) (Nat.le_of_ble_eq_true rfl) 4096 hr9 ?_
  refine q_Jmrg (lI' := []) (lE' := []) rfl rfl ?_
  refine q_blk 1 [] (c' := q_kc (t, r, m, z, N, ext, rx, L) I E 64 [none, none, none, none, none, some (.long r9), none, none] [.long r9] [] []) ok_X12_digestWithBale rfl q_cn ?_
  cases hf
  exact q_krl ok_X12_digestWithBale rfl rfl (Nat.le_of_ble_eq_true rfl) (Nat.le_of_ble_eq_true rfl) ⟨rfl, q_hpe (q_fin [] rfl) (q_fin [] rfl)⟩
set_option maxHeartbeats 4000000 in
theorem lp_X12_digest_L5_400 {g : q_G} {d mc ms : Nat} {h0 : q_H} {Q : (Option Value ⊕ String) → q_H → Prop} {k n : Nat} {t : Nat} {r : Nat} {m : Nat} {z : Nat} {N : Nat} {ext : Nat → q_Sh} {rx : Nat → Nat → Option Nat} {L : Nat → Nat → Int64} (hd : 7 ≤ d) (hk : k ≤ mc) (hn : n ≤ ms)  : ∀ (fu : Nat) {I : Nat → Nat → Int32} {E : Nat → Nat → Option Nat} {v1 : Int64} {v3 : Int32} {r0 : Int64} (hf : f_X12_digest_L5 (I 457) (I 459) (I 460) (I 461) (I 462) (I 463) (I 464) (I 471) fu v1 v3 = some r0) (hK0 : q_J g m_X12_digest d mc ms h0 [] Q k n (q_kc (t, r, m, z, N, ext, rx, L) I E 20 [some (.ref 400), some (.long r0), none, none, none] [] [] [])), q_J g m_X12_digest d mc ms h0 [] Q k n (5, [some (.ref 400), some (.long v1), none, some (.int v3), none], [], q_hp (t, r, m, z, N, ext, rx, L) I E) := by
  intro fu
  induction fu with
  | zero =>
    intro I E v1 v3 r0 hf hK0
    rw [f_X12_digest_L5] at hf
    cases hf
  | succ fu ih =>
    intro I E v1 v3 r0 hf hK0
    rw [f_X12_digest_L5] at hf
    change q_J g m_X12_digest d mc ms h0 [] Q k n (q_kc (t, r, m, z, N, ext, rx, L) I E 5 [some (.ref 400), some (.long v1), none, some (.int v3), none] [] [] [])
    refine q_blf 4 [] (a := q_kc (t, r, m, z, N, ext, rx, L) I E 20 [some (.ref 400), some (.long v1), none, some (.int v3), none] [] [] []) (b := q_kc (t, r, m, z, N, ext, rx, L) I E 10 [some (.ref 400), some (.long v1), none, some (.int v3), none] [] [] []) (P := ((I 457) 7) ≤ v3) ok_X12_digest rfl q_cn (fun h1 => ?_) (fun h1 => ?_)
    · have hf := q_ip h1 hf
      refine q_less (ls' := [some (.ref 400), some (.long v1), none, none, none]) (q_sb2 (q_sb2 (q_sb1 (q_sb1 (q_sb1 q_sb0))))) ?_
      cases hf
      exact q_Jpad [] [] rfl rfl hK0
    · have hf := q_in h1 hf
      refine q_blk 5 [] (c' := q_kc (t, r, m, z, N, ext, rx, L) I E 15 [some (.ref 400), some (.long v1), none, some (.int v3), none] [.int v3, .ref 457, .long v1, .ref 400] [] []) ok_X12_digest rfl q_cn ?_
      obtain ⟨r2, hr2, hf⟩ := q_bd hf
      refine q_kV (M2 := m_X2_inRow) (As := [.int v3]) (b := 457) (v2 := some (.int r2)) ok_X12_digest ok_X2_inRow cv_X2_inRow (ct_X2_inRow_457 (d := 1) (Nat.le_refl _) hr2) rfl rfl (Or.inl rfl) rfl rfl rfl rfl (Nat.le_trans (Nat.le_of_ble_eq_true rfl) hd) hk hn (Nat.le_of_ble_eq_true rfl) (fun x hx => absurd hx List.not_mem_nil) (q_nmL0 _) (q_nmS0 _) rfl (pos' := 16) (st' := [.int r2, .long v1, .ref 400]) (lI' := []) (lE' := []) rfl rfl rfl rfl ?_
      obtain ⟨r3, hr3, hf⟩ := q_bd hf
      refine q_kV (M2 := m_X12_digestWithBale) (As := [.long v1, .int r2]) (b := 400) (v2 := some (.long r3)) ok_X12_digest ok_X12_digestWithBale cv_X12_digestWithBale (ct_X12_digestWithBale_400 (d := 3) (Nat.le_refl _) hr3) rfl rfl (Or.inl rfl) rfl rfl rfl rfl (Nat.le_trans (Nat.le_of_ble_eq_true rfl) hd) hk hn (Nat.le_of_ble_eq_true rfl) (fun x hx => absurd hx List.not_mem_nil) (q_nmL0 _) (q_nmS0 _) rfl (pos' := 17) (st' := [.long r3]) (lI' := []) (lE' := []) rfl rfl rfl rfl ?_
      refine q_blk 3 [] (c' := q_kc (t, r, m, z, N, ext, rx, L) I E 5 [some (.ref 400), some (.long r3), none, some (.int (v3 + 1)), none] [] [] []) ok_X12_digest rfl q_cn ?_
      exact ih (I := q_ws I []) (E := q_ws E []) hf (q_Jmrg rfl rfl hK0)
set_option maxHeartbeats 4000000 in
theorem lp_X12_digest_L44_400 {g : q_G} {d mc ms : Nat} {h0 : q_H} {Q : (Option Value ⊕ String) → q_H → Prop} {k n : Nat} {t : Nat} {r : Nat} {m : Nat} {z : Nat} {N : Nat} {ext : Nat → q_Sh} {rx : Nat → Nat → Option Nat} {L : Nat → Nat → Int64} (hd : 7 ≤ d) (hk : k ≤ mc) (hn : n ≤ ms)  : ∀ (fu : Nat) {I : Nat → Nat → Int32} {E : Nat → Nat → Option Nat} {v1 : Int64} {v3 : Int32} {r0 : Int64} (hf : f_X12_digest_L44 (I 402) (I 459) (I 460) (I 470) fu v1 v3 = some r0) (hK0 : q_J g m_X12_digest d mc ms h0 [] Q k n (q_kc (t, r, m, z, N, ext, rx, L) I E 63 [none, some (.long r0), none, none, none] [] [] [])), q_J g m_X12_digest d mc ms h0 [] Q k n (44, [some (.ref 400), some (.long v1), none, some (.int v3), none], [], q_hp (t, r, m, z, N, ext, rx, L) I E) := by
  intro fu
  induction fu with
  | zero =>
    intro I E v1 v3 r0 hf hK0
    rw [f_X12_digest_L44] at hf
    cases hf
  | succ fu ih =>
    intro I E v1 v3 r0 hf hK0
    rw [f_X12_digest_L44] at hf
    change q_J g m_X12_digest d mc ms h0 [] Q k n (q_kc (t, r, m, z, N, ext, rx, L) I E 44 [some (.ref 400), some (.long v1), none, some (.int v3), none] [] [] [])
    refine q_blf 4 [] (a := q_kc (t, r, m, z, N, ext, rx, L) I E 63 [some (.ref 400), some (.long v1), none, some (.int v3), none] [] [] []) (b := q_kc (t, r, m, z, N, ext, rx, L) I E 49 [some (.ref 400), some (.long v1), none, some (.int v3), none] [] [] []) (P := ((I 402) 3) ≤ v3) ok_X12_digest rfl q_cn (fun h4 => ?_) (fun h4 => ?_)
    · have hf := q_ip h4 hf
      refine q_less (ls' := [none, some (.long v1), none, none, none]) (q_sb1 (q_sb2 (q_sb1 (q_sb1 (q_sb1 q_sb0))))) ?_
      cases hf
      exact q_Jpad [] [] rfl rfl hK0
    · have hf := q_in h4 hf
      refine q_blk 7 [] (c' := q_kc (t, r, m, z, N, ext, rx, L) I E 56 [some (.ref 400), some (.long v1), none, some (.int v3), none] [.int v3, .ref 457, .ref 400, .long (v1 * (31 : Int64))] [] []) ok_X12_digest rfl q_cn ?_
      obtain ⟨r5, hr5, hf⟩ := q_bd hf
      refine q_kV (M2 := m_X2_held) (As := [.int v3]) (b := 457) (v2 := some (.int r5)) ok_X12_digest ok_X2_held cv_X2_held (ct_X2_held_457 (d := 1) (Nat.le_refl _) hr5) rfl rfl (Or.inl rfl) rfl rfl rfl rfl (Nat.le_trans (Nat.le_of_ble_eq_true rfl) hd) hk hn (Nat.le_of_ble_eq_true rfl) (fun x hx => absurd hx List.not_mem_nil) (q_nmL0 _) (q_nmS0 _) rfl (pos' := 57) (st' := [.int r5, .ref 400, .long (v1 * (31 : Int64))]) (lI' := []) (lE' := []) rfl rfl rfl rfl ?_
      obtain ⟨r6, hr6, hf⟩ := q_bd hf
      refine q_kV (M2 := m_X12_digestOfLead) (As := [.int r5]) (b := 400) (v2 := some (.int r6)) ok_X12_digest ok_X12_digestOfLead cv_X12_digestOfLead (ct_X12_digestOfLead_400 (d := 2) (Nat.le_refl _) hr6) rfl rfl (Or.inl rfl) rfl rfl rfl rfl (Nat.le_trans (Nat.le_of_ble_eq_true rfl) hd) hk hn (Nat.le_of_ble_eq_true rfl) (fun x hx => absurd hx List.not_mem_nil) (q_nmL0 _) (q_nmS0 _) rfl (pos' := 58) (st' := [.int r6, .long (v1 * (31 : Int64))]) (lI' := []) (lE' := []) rfl rfl rfl rfl ?_
      refine q_blk 5 [] (c' := q_kc (t, r, m, z, N, ext, rx, L) I E 44 [some (.ref 400), some (.long ((v1 * (31 : Int64)) + r6.toInt64)), none, some (.int (v3 + 1)), none] [] [] []) ok_X12_digest rfl q_cn ?_
      exact ih (I := q_ws I []) (E := q_ws E []) hf (q_Jmrg rfl rfl hK0)
set_option maxHeartbeats 4000000 in
theorem lp_X12_digest_L22_400 {g : q_G} {d mc ms : Nat} {h0 : q_H} {Q : (Option Value ⊕ String) → q_H → Prop} {k n : Nat} {t : Nat} {r : Nat} {m : Nat} {z : Nat} {N : Nat} {ext : Nat → q_Sh} {rx : Nat → Nat → Option Nat} {L : Nat → Nat → Int64} (hd : 7 ≤ d) (hk : k ≤ mc) (hn : n ≤ ms)  : ∀ (fu : Nat) {I : Nat → Nat → Int32} {E : Nat → Nat → Option Nat} {v1 : Int64} {v3 : Int32} {r0 : Int64} (hf : f_X12_digest_L22 (I 402) (I 459) (I 460) (I 461) (I 462) (I 463) (I 464) (I 465) (I 466) fu v1 v3 = some r0) (hK0 : q_J g m_X12_digest d mc ms h0 [] Q k n (q_kc (t, r, m, z, N, ext, rx, L) I E 42 [some (.ref 400), some (.long r0), none, none, none] [] [] [])), q_J g m_X12_digest d mc ms h0 [] Q k n (22, [some (.ref 400), some (.long v1), none, some (.int v3), none], [], q_hp (t, r, m, z, N, ext, rx, L) I E) := by
  intro fu
  induction fu with
  | zero =>
    intro I E v1 v3 r0 hf hK0
    rw [f_X12_digest_L22] at hf
    cases hf
  | succ fu ih =>
    intro I E v1 v3 r0 hf hK0
    rw [f_X12_digest_L22] at hf
    change q_J g m_X12_digest d mc ms h0 [] Q k n (q_kc (t, r, m, z, N, ext, rx, L) I E 22 [some (.ref 400), some (.long v1), none, some (.int v3), none] [] [] [])
    refine q_blf 4 [] (a := q_kc (t, r, m, z, N, ext, rx, L) I E 42 [some (.ref 400), some (.long v1), none, some (.int v3), none] [] [] []) (b := q_kc (t, r, m, z, N, ext, rx, L) I E 27 [some (.ref 400), some (.long v1), none, some (.int v3), none] [] [] []) (P := ((I 402) 1) ≤ v3) ok_X12_digest rfl q_cn (fun h7 => ?_) (fun h7 => ?_)
    · have hf := q_ip h7 hf
      refine q_less (ls' := [some (.ref 400), some (.long v1), none, none, none]) (q_sb2 (q_sb2 (q_sb1 (q_sb1 (q_sb1 q_sb0))))) ?_
      cases hf
      exact q_Jpad [] [] rfl rfl hK0
    · have hf := q_in h7 hf
      refine q_blk 3 [] (c' := q_kc (t, r, m, z, N, ext, rx, L) I E 30 [some (.ref 400), some (.long v1), none, some (.int v3), none] [.int v3, .ref 457] [] []) ok_X12_digest rfl q_cn ?_
      obtain ⟨r8, hr8, hf⟩ := q_bd hf
      refine q_kV (M2 := m_X2_loftBaleFrom) (As := [.int v3]) (b := 457) (v2 := some (.int r8)) ok_X12_digest ok_X2_loftBaleFrom cv_X2_loftBaleFrom (ct_X2_loftBaleFrom_457 (d := 2) (Nat.le_refl _) hr8) rfl rfl (Or.inl rfl) rfl rfl rfl rfl (Nat.le_trans (Nat.le_of_ble_eq_true rfl) hd) hk hn (Nat.le_of_ble_eq_true rfl) (fun x hx => absurd hx List.not_mem_nil) (q_nmL0 _) (q_nmS0 _) rfl (pos' := 31) (st' := [.int r8]) (lI' := []) (lE' := []) rfl rfl rfl rfl ?_
      refine q_blf 3 [] (a := q_kc (t, r, m, z, N, ext, rx, L) I E 40 [some (.ref 400), some (.long v1), none, some (.int v3), some (.int r8)] [] [] []) (b := q_kc (t, r, m, z, N, ext, rx, L) I E 35 [some (.ref 400), some (.long v1), none, some (.int v3), some (.int r8)] [] [] []) (P := r8 = (-1 : Int32)) ok_X12_digest rfl q_cn (fun h9 => ?_) (fun h9 => ?_)
      · have hf := q_ip h9 hf
        refine q_blk 2 [] (c' := q_kc (t, r, m, z, N, ext, rx, L) I E 22 [some (.ref 400), some (.long v1), none, some (.int (v3 + 1)), some (.int r8)] [] [] []) ok_X12_digest rfl q_cn ?_
        refine q_less (ls' := [some (.ref 400), some (.long v1), none, some (.int (v3 + 1)), none]) (q_sb2 (q_sb2 (q_sb1 (q_sb2 (q_sb1 q_sb0))))) ?_
        exact ih (I := q_ws I []) (E := q_ws E []) hf (q_Jmrg rfl rfl hK0)
      · have hf := q_in h9 hf
        refine q_blk 3 [] (c' := q_kc (t, r, m, z, N, ext, rx, L) I E 38 [some (.ref 400), some (.long v1), none, some (.int v3), some (.int r8)] [.int r8, .long v1, .ref 400] [] []) ok_X12_digest rfl q_cn ?_
        obtain ⟨r10, hr10, hf⟩ := q_bd hf
        refine q_kV (M2 := m_X12_digestWithBale) (As := [.long v1, .int r8]) (b := 400) (v2 := some (.long r10)) ok_X12_digest ok_X12_digestWithBale cv_X12_digestWithBale (ct_X12_digestWithBale_400 (d := 3) (Nat.le_refl _) hr10) rfl rfl (Or.inl rfl) rfl rfl rfl rfl (Nat.le_trans (Nat.le_of_ble_eq_true rfl) hd) hk hn (Nat.le_of_ble_eq_true rfl) (fun x hx => absurd hx List.not_mem_nil) (q_nmL0 _) (q_nmS0 _) rfl (pos' := 39) (st' := [.long r10]) (lI' := []) (lE' := []) rfl rfl rfl rfl ?_
        refine q_blk 3 [] (c' := q_kc (t, r, m, z, N, ext, rx, L) I E 22 [some (.ref 400), some (.long r10), none, some (.int (v3 + 1)), some (.int r8)] [] [] []) ok_X12_digest rfl q_cn ?_
        refine q_less (ls' := [some (.ref 400), some (.long r10), none, some (.int (v3 + 1)), none]) (q_sb2 (q_sb2 (q_sb1 (q_sb2 (q_sb1 q_sb0))))) ?_
        exact ih (I := q_ws I []) (E := q_ws E []) hf (q_Jmrg rfl rfl hK0)
set_option maxHeartbeats 4000000 in
theorem ct_X12_digest_400 {g : q_G} {t : Nat} {r : Nat} {m : Nat} {z : Nat} {N : Nat} {ext : Nat → q_Sh} {rx : Nat → Nat → Option Nat} {L : Nat → Nat → Int64} {d : Nat} (hd : 7 ≤ d)  {I : Nat → Nat → Int32} {E : Nat → Nat → Option Nat} {r0 : Int64 × (Nat → Int32) × (Nat → Int32) × (Nat → Int32)} (hf : f_X12_digest (I 402) (I 457) (I 459) (I 460) (I 461) (I 462) (I 463) (I 464) (I 465) (I 466) (I 467) (I 468) (I 469) (I 470) (I 471) = some r0) : q_Ct g m_X12_digest d 0 0 [] [.ref 400] (q_hp (t, r, m, z, N, ext, rx, L) I E) (fun o h' => o = .inl (some (.long r0.1)) ∧ h' = q_hp (t, r, m, z, N, ext, rx, L) (q_ws I [(467, r0.2.1), (468, r0.2.2.1), (469, r0.2.2.2)]) (q_ws E [])) := by
  rw [f_X12_digest] at hf
  refine q_Ct_of ok_X12_digest (Nat.le_of_ble_eq_true rfl) ?_ _ rfl rfl
  change q_J g m_X12_digest d 0 0 _ [] _ 0 0 (q_kc (t, r, m, z, N, ext, rx, L) I E 0 [some (.ref 400), none, none, none, none] [] [] [])
  refine q_blk 1 [] (c' := q_kc (t, r, m, z, N, ext, rx, L) I E 1 [some (.ref 400), none, none, none, none] [.ref 400] [] []) ok_X12_digest rfl q_cn ?_
  obtain ⟨r11, hr11, hf⟩ := q_bd hf
  refine q_kV (M2 := m_X12_digestOfCounts) (As := []) (b := 400) (v2 := some (.long r11.1)) ok_X12_digest ok_X12_digestOfCounts cv_X12_digestOfCounts (ct_X12_digestOfCounts_400 (d := 6) (Nat.le_refl _) hr11) rfl rfl (Or.inl rfl) rfl rfl rfl rfl (Nat.le_trans (Nat.le_of_ble_eq_true rfl) hd) (Nat.le_of_ble_eq_true rfl) (Nat.le_of_ble_eq_true rfl) (Nat.le_of_ble_eq_true rfl) (fun x hx => absurd hx List.not_mem_nil) (q_nmL0 _) (q_nmS0 _) rfl (pos' := 2) (st' := [.long r11.1]) (lI' := [(467, r11.2.1), (468, r11.2.2.1), (469, r11.2.2.2)]) (lE' := []) rfl rfl rfl rfl ?_
  refine q_blk 3 [] (c' := q_kc (t, r, m, z, N, ext, rx, L) I E 5 [some (.ref 400), some (.long r11.1), none, some (.int (0 : Int32)), none] [] [(467, r11.2.1), (468, r11.2.2.1), (469, r11.2.2.2)] []) ok_X12_digest rfl q_cn ?_
  obtain ⟨r12, hr12, hf⟩ := q_bd hf
  refine lp_X12_digest_L5_400 (I := q_ws I [(467, r11.2.1), (468, r11.2.2.1), (469, r11.2.2.2)]) (E := q_ws E []) hd (Nat.le_of_ble_eq_true rfl) (Nat.le_of_ble_eq_true rfl) 4096 hr12 ?_
  refine q_Jmrg (lI' := [(467, r11.2.1), (468, r11.2.2.1), (469, r11.2.2.2)]) (lE' := []) rfl rfl ?_
  refine q_blk 2 [] (c' := q_kc (t, r, m, z, N, ext, rx, L) I E 22 [some (.ref 400), some (.long r12), none, some (.int (0 : Int32)), none] [] [(467, r11.2.1), (468, r11.2.2.1), (469, r11.2.2.2)] []) ok_X12_digest rfl q_cn ?_
  obtain ⟨r13, hr13, hf⟩ := q_bd hf
  refine lp_X12_digest_L22_400 (I := q_ws I [(467, r11.2.1), (468, r11.2.2.1), (469, r11.2.2.2)]) (E := q_ws E []) hd (Nat.le_of_ble_eq_true rfl) (Nat.le_of_ble_eq_true rfl) 4096 hr13 ?_
  refine q_Jmrg (lI' := [(467, r11.2.1), (468, r11.2.2.1), (469, r11.2.2.2)]) (lE' := []) rfl rfl ?_
  refine q_blk 2 [] (c' := q_kc (t, r, m, z, N, ext, rx, L) I E 44 [some (.ref 400), some (.long r13), none, some (.int (0 : Int32)), none] [] [(467, r11.2.1), (468, r11.2.2.1), (469, r11.2.2.2)] []) ok_X12_digest rfl q_cn ?_
  obtain ⟨r14, hr14, hf⟩ := q_bd hf
  refine lp_X12_digest_L44_400 (I := q_ws I [(467, r11.2.1), (468, r11.2.2.1), (469, r11.2.2.2)]) (E := q_ws E []) hd (Nat.le_of_ble_eq_true rfl) (Nat.le_of_ble_eq_true rfl) 4096 hr14 ?_
  refine q_Jmrg (lI' := [(467, r11.2.1), (468, r11.2.2.1), (469, r11.2.2.2)]) (lE' := []) rfl rfl ?_
  refine q_blk 1 [] (c' := q_kc (t, r, m, z, N, ext, rx, L) I E 64 [none, some (.long r14), none, none, none] [.long r14] [(467, r11.2.1), (468, r11.2.2.1), (469, r11.2.2.2)] []) ok_X12_digest rfl q_cn ?_
  cases hf
  exact q_krl ok_X12_digest rfl rfl (Nat.le_of_ble_eq_true rfl) (Nat.le_of_ble_eq_true rfl) ⟨rfl, q_hpe (q_fin [467, 468, 469] rfl) (q_fin [] rfl)⟩
set_option maxHeartbeats 4000000 in
theorem ct_X11_at_452 {g : q_G} {t : Nat} {r : Nat} {m : Nat} {z : Nat} {N : Nat} {ext : Nat → q_Sh} {rx : Nat → Nat → Option Nat} {L : Nat → Nat → Int64} {d : Nat} (hd : 1 ≤ d)  {I : Nat → Nat → Int32} {E : Nat → Nat → Option Nat} {x1 : Int32} {r0 : Int32} (hf : f_X11_at (I 401) (I 452) x1 = some r0) : q_Ct g m_X11_at d 0 0 [] [.ref 452, .int x1] (q_hp (t, r, m, z, N, ext, rx, L) I E) (fun o h' => o = .inl (some (.int r0)) ∧ h' = q_hp (t, r, m, z, N, ext, rx, L) (q_ws I []) (q_ws E [])) := by
  rw [f_X11_at] at hf
  refine q_Ct_of ok_X11_at (Nat.le_of_ble_eq_true rfl) ?_ _ rfl rfl
  change q_J g m_X11_at d 0 0 _ [] _ 0 0 (q_kc (t, r, m, z, N, ext, rx, L) I E 0 [some (.ref 452), some (.int x1)] [] [] [])
  refine q_blf 1 [] (a := q_kc (t, r, m, z, N, ext, rx, L) I E 14 [some (.ref 452), some (.int x1)] [] [] []) (b := q_kc (t, r, m, z, N, ext, rx, L) I E 2 [some (.ref 452), some (.int x1)] [] [] []) (P := x1 < 0) ok_X11_at rfl q_cn (fun h1 => ?_) (fun h1 => ?_)
  · have hf := q_ip h1 hf
    refine q_blk 1 [] (c' := q_kc (t, r, m, z, N, ext, rx, L) I E 15 [some (.ref 452), some (.int x1)] [.int (0 : Int32)] [] []) ok_X11_at rfl q_cn ?_
    cases hf
    exact q_kri ok_X11_at rfl rfl rfl (Nat.le_of_ble_eq_true rfl) (Nat.le_of_ble_eq_true rfl) ⟨rfl, q_hpe (q_fin [] rfl) (q_fin [] rfl)⟩
  · have hf := q_in h1 hf
    refine q_blf 3 [] (a := q_kc (t, r, m, z, N, ext, rx, L) I E 14 [some (.ref 452), some (.int x1)] [] [] []) (b := q_kc (t, r, m, z, N, ext, rx, L) I E 6 [some (.ref 452), some (.int x1)] [] [] []) (P := ((I 452) 5) ≤ x1) ok_X11_at rfl q_cn (fun h2 => ?_) (fun h2 => ?_)
    · have hf := q_ip h2 hf
      refine q_blk 1 [] (c' := q_kc (t, r, m, z, N, ext, rx, L) I E 15 [some (.ref 452), some (.int x1)] [.int (0 : Int32)] [] []) ok_X11_at rfl q_cn ?_
      cases hf
      exact q_kri ok_X11_at rfl rfl rfl (Nat.le_of_ble_eq_true rfl) (Nat.le_of_ble_eq_true rfl) ⟨rfl, q_hpe (q_fin [] rfl) (q_fin [] rfl)⟩
    · have hf := q_in h2 hf
      refine q_blf 2 [] (a := q_kc (t, r, m, z, N, ext, rx, L) I E 14 [some (.ref 452), some (.int x1)] [] [] []) (b := q_kc (t, r, m, z, N, ext, rx, L) I E 9 [some (.ref 452), some (.int x1)] [] [] []) (P := (2000 : Int32) ≤ x1) ok_X11_at rfl q_cn (fun h3 => ?_) (fun h3 => ?_)
      · have hf := q_ip h3 hf
        refine q_blk 1 [] (c' := q_kc (t, r, m, z, N, ext, rx, L) I E 15 [some (.ref 452), some (.int x1)] [.int (0 : Int32)] [] []) ok_X11_at rfl q_cn ?_
        cases hf
        exact q_kri ok_X11_at rfl rfl rfl (Nat.le_of_ble_eq_true rfl) (Nat.le_of_ble_eq_true rfl) ⟨rfl, q_hpe (q_fin [] rfl) (q_fin [] rfl)⟩
      · have hf := q_in h3 hf
        obtain ⟨j4, hj4, hf⟩ := q_bd hf
        refine q_blk 5 [j4] (c' := q_kc (t, r, m, z, N, ext, rx, L) I E 15 [some (.ref 452), some (.int x1)] [.int ((I 401) j4)] [] []) ok_X11_at rfl (q_cc hj4 q_cn) ?_
        cases hf
        exact q_kri ok_X11_at rfl rfl rfl (Nat.le_of_ble_eq_true rfl) (Nat.le_of_ble_eq_true rfl) ⟨rfl, q_hpe (q_fin [] rfl) (q_fin [] rfl)⟩
set_option maxHeartbeats 4000000 in
theorem lp_X11_behindBlanks_L2_452 {g : q_G} {d mc ms : Nat} {h0 : q_H} {Q : (Option Value ⊕ String) → q_H → Prop} {k n : Nat} {t : Nat} {r : Nat} {m : Nat} {z : Nat} {N : Nat} {ext : Nat → q_Sh} {rx : Nat → Nat → Option Nat} {L : Nat → Nat → Int64} (hd : 2 ≤ d) (hk : k ≤ mc) (hn : n ≤ ms)  : ∀ (fu : Nat) {I : Nat → Nat → Int32} {E : Nat → Nat → Option Nat} {v2 : Int32} {r0 : Int32} (hf : f_X11_behindBlanks_L2 (I 401) (I 452) fu v2 = some r0) (hK0 : q_J g m_X11_behindBlanks d mc ms h0 [] Q k n (q_kc (t, r, m, z, N, ext, rx, L) I E 18 [none, none, some (.int r0)] [] [] [])), q_J g m_X11_behindBlanks d mc ms h0 [] Q k n (2, [some (.ref 452), none, some (.int v2)], [], q_hp (t, r, m, z, N, ext, rx, L) I E) := by
  intro fu
  induction fu with
  | zero =>
    intro I E v2 r0 hf hK0
    rw [f_X11_behindBlanks_L2] at hf
    cases hf
  | succ fu ih =>
    intro I E v2 r0 hf hK0
    rw [f_X11_behindBlanks_L2] at hf
    change q_J g m_X11_behindBlanks d mc ms h0 [] Q k n (q_kc (t, r, m, z, N, ext, rx, L) I E 2 [some (.ref 452), none, some (.int v2)] [] [] [])
    refine q_blf 3 [] (a := q_kc (t, r, m, z, N, ext, rx, L) I E 18 [some (.ref 452), none, some (.int v2)] [] [] []) (b := q_kc (t, r, m, z, N, ext, rx, L) I E 6 [some (.ref 452), none, some (.int v2)] [] [] []) (P := ((I 452) 5) ≤ v2) ok_X11_behindBlanks rfl q_cn (fun h1 => ?_) (fun h1 => ?_)
    · have hf := q_ip h1 hf
      refine q_less (ls' := [none, none, some (.int v2)]) (q_sb1 (q_sb1 (q_sb2 q_sb0))) ?_
      cases hf
      exact q_Jpad [] [] rfl rfl hK0
    · have hf := q_in h1 hf
      refine q_blk 2 [] (c' := q_kc (t, r, m, z, N, ext, rx, L) I E 8 [some (.ref 452), none, some (.int v2)] [.int v2, .ref 452] [] []) ok_X11_behindBlanks rfl q_cn ?_
      obtain ⟨r2, hr2, hf⟩ := q_bd hf
      refine q_kV (M2 := m_X11_at) (As := [.int v2]) (b := 452) (v2 := some (.int r2)) ok_X11_behindBlanks ok_X11_at cv_X11_at (ct_X11_at_452 (d := 1) (Nat.le_refl _) hr2) rfl rfl (Or.inl rfl) rfl rfl rfl rfl (Nat.le_trans (Nat.le_of_ble_eq_true rfl) hd) hk hn (Nat.le_of_ble_eq_true rfl) (fun x hx => absurd hx List.not_mem_nil) (q_nmL0 _) (q_nmS0 _) rfl (pos' := 9) (st' := [.int r2]) (lI' := []) (lE' := []) rfl rfl rfl rfl ?_
      refine q_blf 1 [] (a := q_kc (t, r, m, z, N, ext, rx, L) I E 16 [some (.ref 452), none, some (.int v2)] [] [] []) (b := q_kc (t, r, m, z, N, ext, rx, L) I E 11 [some (.ref 452), none, some (.int v2)] [] [] []) (P := r2 = (32 : Int32)) ok_X11_behindBlanks rfl q_cn (fun h3 => ?_) (fun h3 => ?_)
      · have hf := q_ip h3 hf
        refine q_blk 2 [] (c' := q_kc (t, r, m, z, N, ext, rx, L) I E 2 [some (.ref 452), none, some (.int (v2 + 1))] [] [] []) ok_X11_behindBlanks rfl q_cn ?_
        exact ih (I := q_ws I []) (E := q_ws E []) hf (q_Jmrg rfl rfl hK0)
      · have hf := q_in h3 hf
        refine q_blk 2 [] (c' := q_kc (t, r, m, z, N, ext, rx, L) I E 13 [some (.ref 452), none, some (.int v2)] [.int v2, .ref 452] [] []) ok_X11_behindBlanks rfl q_cn ?_
        obtain ⟨r4, hr4, hf⟩ := q_bd hf
        refine q_kV (M2 := m_X11_at) (As := [.int v2]) (b := 452) (v2 := some (.int r4)) ok_X11_behindBlanks ok_X11_at cv_X11_at (ct_X11_at_452 (d := 1) (Nat.le_refl _) hr4) rfl rfl (Or.inl rfl) rfl rfl rfl rfl (Nat.le_trans (Nat.le_of_ble_eq_true rfl) hd) hk hn (Nat.le_of_ble_eq_true rfl) (fun x hx => absurd hx List.not_mem_nil) (q_nmL0 _) (q_nmS0 _) rfl (pos' := 14) (st' := [.int r4]) (lI' := []) (lE' := []) rfl rfl rfl rfl ?_
        refine q_blf 1 [] (a := q_kc (t, r, m, z, N, ext, rx, L) I E 18 [some (.ref 452), none, some (.int v2)] [] [] []) (b := q_kc (t, r, m, z, N, ext, rx, L) I E 16 [some (.ref 452), none, some (.int v2)] [] [] []) (P := ¬ r4 = (10 : Int32)) ok_X11_behindBlanks rfl q_cn (fun h5 => ?_) (fun h5 => ?_)
        · have hf := q_ip h5 hf
          refine q_less (ls' := [none, none, some (.int v2)]) (q_sb1 (q_sb1 (q_sb2 q_sb0))) ?_
          cases hf
          exact q_Jpad [] [] rfl rfl hK0
        · have hf := q_in h5 hf
          refine q_blk 2 [] (c' := q_kc (t, r, m, z, N, ext, rx, L) I E 2 [some (.ref 452), none, some (.int (v2 + 1))] [] [] []) ok_X11_behindBlanks rfl q_cn ?_
          exact ih (I := q_ws I []) (E := q_ws E []) hf (q_Jmrg rfl rfl hK0)
set_option maxHeartbeats 4000000 in
theorem ct_X11_behindBlanks_452 {g : q_G} {t : Nat} {r : Nat} {m : Nat} {z : Nat} {N : Nat} {ext : Nat → q_Sh} {rx : Nat → Nat → Option Nat} {L : Nat → Nat → Int64} {d : Nat} (hd : 2 ≤ d)  {I : Nat → Nat → Int32} {E : Nat → Nat → Option Nat} {x1 : Int32} {r0 : Int32} (hf : f_X11_behindBlanks (I 401) (I 452) x1 = some r0) : q_Ct g m_X11_behindBlanks d 0 0 [] [.ref 452, .int x1] (q_hp (t, r, m, z, N, ext, rx, L) I E) (fun o h' => o = .inl (some (.int r0)) ∧ h' = q_hp (t, r, m, z, N, ext, rx, L) (q_ws I []) (q_ws E [])) := by
  rw [f_X11_behindBlanks] at hf
  refine q_Ct_of ok_X11_behindBlanks (Nat.le_of_ble_eq_true rfl) ?_ _ rfl rfl
  change q_J g m_X11_behindBlanks d 0 0 _ [] _ 0 0 (q_kc (t, r, m, z, N, ext, rx, L) I E 0 [some (.ref 452), some (.int x1), none] [] [] [])
  refine q_blk 2 [] (c' := q_kc (t, r, m, z, N, ext, rx, L) I E 2 [some (.ref 452), some (.int x1), some (.int x1)] [] [] []) ok_X11_behindBlanks rfl q_cn ?_
  refine q_less (ls' := [some (.ref 452), none, some (.int x1)]) (q_sb2 (q_sb1 (q_sb2 q_sb0))) ?_
  obtain ⟨r6, hr6, hf⟩ := q_bd hf
  refine lp_X11_behindBlanks_L2_452 (I := q_ws I []) (E := q_ws E []) hd (Nat.le_of_ble_eq_true rfl) (Nat.le_of_ble_eq_true rfl) 4096 hr6 ?_
  refine q_Jmrg (lI' := []) (lE' := []) rfl rfl ?_
  refine q_blk 1 [] (c' := q_kc (t, r, m, z, N, ext, rx, L) I E 19 [none, none, some (.int r6)] [.int r6] [] []) ok_X11_behindBlanks rfl q_cn ?_
  cases hf
  exact q_kri ok_X11_behindBlanks rfl rfl rfl (Nat.le_of_ble_eq_true rfl) (Nat.le_of_ble_eq_true rfl) ⟨rfl, q_hpe (q_fin [] rfl) (q_fin [] rfl)⟩
set_option maxHeartbeats 4000000 in
theorem ct_X11_isLetter {g : q_G} {t : Nat} {r : Nat} {m : Nat} {z : Nat} {N : Nat} {ext : Nat → q_Sh} {rx : Nat → Nat → Option Nat} {L : Nat → Nat → Int64} {d : Nat} (hd : 1 ≤ d)  {I : Nat → Nat → Int32} {E : Nat → Nat → Option Nat} {x0 : Int32} {r0 : Bool} (hf : f_X11_isLetter x0 = some r0) : q_Ct g m_X11_isLetter d 0 0 [] [.int x0] (q_hp (t, r, m, z, N, ext, rx, L) I E) (fun o h' => o = .inl (some (.int (q_bz r0))) ∧ h' = q_hp (t, r, m, z, N, ext, rx, L) (q_ws I []) (q_ws E [])) := by
  rw [f_X11_isLetter] at hf
  refine q_Ct_of ok_X11_isLetter (Nat.le_of_ble_eq_true rfl) ?_ _ rfl rfl
  change q_J g m_X11_isLetter d 0 0 _ [] _ 0 0 (q_kc (t, r, m, z, N, ext, rx, L) I E 0 [some (.int x0)] [] [] [])
  refine q_blf 2 [] (a := q_kc (t, r, m, z, N, ext, rx, L) I E 8 [some (.int x0)] [] [] []) (b := q_kc (t, r, m, z, N, ext, rx, L) I E 3 [some (.int x0)] [] [] []) (P := x0 < (97 : Int32)) ok_X11_isLetter rfl q_cn (fun h1 => ?_) (fun h1 => ?_)
  · have hf := q_ip h1 hf
    refine q_blk 1 [] (c' := q_kc (t, r, m, z, N, ext, rx, L) I E 9 [some (.int x0)] [.int (0 : Int32)] [] []) ok_X11_isLetter rfl q_cn ?_
    cases hf
    exact q_kri ok_X11_isLetter rfl rfl rfl (Nat.le_of_ble_eq_true rfl) (Nat.le_of_ble_eq_true rfl) ⟨rfl, q_hpe (q_fin [] rfl) (q_fin [] rfl)⟩
  · have hf := q_in h1 hf
    refine q_blf 2 [] (a := q_kc (t, r, m, z, N, ext, rx, L) I E 8 [some (.int x0)] [] [] []) (b := q_kc (t, r, m, z, N, ext, rx, L) I E 6 [some (.int x0)] [] [] []) (P := (122 : Int32) < x0) ok_X11_isLetter rfl q_cn (fun h2 => ?_) (fun h2 => ?_)
    · have hf := q_ip h2 hf
      refine q_blk 1 [] (c' := q_kc (t, r, m, z, N, ext, rx, L) I E 9 [some (.int x0)] [.int (0 : Int32)] [] []) ok_X11_isLetter rfl q_cn ?_
      cases hf
      exact q_kri ok_X11_isLetter rfl rfl rfl (Nat.le_of_ble_eq_true rfl) (Nat.le_of_ble_eq_true rfl) ⟨rfl, q_hpe (q_fin [] rfl) (q_fin [] rfl)⟩
    · have hf := q_in h2 hf
      refine q_blk 2 [] (c' := q_kc (t, r, m, z, N, ext, rx, L) I E 9 [some (.int x0)] [.int (1 : Int32)] [] []) ok_X11_isLetter rfl q_cn ?_
      cases hf
      exact q_kri ok_X11_isLetter rfl rfl rfl (Nat.le_of_ble_eq_true rfl) (Nat.le_of_ble_eq_true rfl) ⟨rfl, q_hpe (q_fin [] rfl) (q_fin [] rfl)⟩
set_option maxHeartbeats 4000000 in
theorem ct_X11_isDigit {g : q_G} {t : Nat} {r : Nat} {m : Nat} {z : Nat} {N : Nat} {ext : Nat → q_Sh} {rx : Nat → Nat → Option Nat} {L : Nat → Nat → Int64} {d : Nat} (hd : 1 ≤ d)  {I : Nat → Nat → Int32} {E : Nat → Nat → Option Nat} {x0 : Int32} {r0 : Bool} (hf : f_X11_isDigit x0 = some r0) : q_Ct g m_X11_isDigit d 0 0 [] [.int x0] (q_hp (t, r, m, z, N, ext, rx, L) I E) (fun o h' => o = .inl (some (.int (q_bz r0))) ∧ h' = q_hp (t, r, m, z, N, ext, rx, L) (q_ws I []) (q_ws E [])) := by
  rw [f_X11_isDigit] at hf
  refine q_Ct_of ok_X11_isDigit (Nat.le_of_ble_eq_true rfl) ?_ _ rfl rfl
  change q_J g m_X11_isDigit d 0 0 _ [] _ 0 0 (q_kc (t, r, m, z, N, ext, rx, L) I E 0 [some (.int x0)] [] [] [])
  refine q_blf 2 [] (a := q_kc (t, r, m, z, N, ext, rx, L) I E 8 [some (.int x0)] [] [] []) (b := q_kc (t, r, m, z, N, ext, rx, L) I E 3 [some (.int x0)] [] [] []) (P := x0 < (48 : Int32)) ok_X11_isDigit rfl q_cn (fun h1 => ?_) (fun h1 => ?_)
  · have hf := q_ip h1 hf
    refine q_blk 1 [] (c' := q_kc (t, r, m, z, N, ext, rx, L) I E 9 [some (.int x0)] [.int (0 : Int32)] [] []) ok_X11_isDigit rfl q_cn ?_
    cases hf
    exact q_kri ok_X11_isDigit rfl rfl rfl (Nat.le_of_ble_eq_true rfl) (Nat.le_of_ble_eq_true rfl) ⟨rfl, q_hpe (q_fin [] rfl) (q_fin [] rfl)⟩
  · have hf := q_in h1 hf
    refine q_blf 2 [] (a := q_kc (t, r, m, z, N, ext, rx, L) I E 8 [some (.int x0)] [] [] []) (b := q_kc (t, r, m, z, N, ext, rx, L) I E 6 [some (.int x0)] [] [] []) (P := (57 : Int32) < x0) ok_X11_isDigit rfl q_cn (fun h2 => ?_) (fun h2 => ?_)
    · have hf := q_ip h2 hf
      refine q_blk 1 [] (c' := q_kc (t, r, m, z, N, ext, rx, L) I E 9 [some (.int x0)] [.int (0 : Int32)] [] []) ok_X11_isDigit rfl q_cn ?_
      cases hf
      exact q_kri ok_X11_isDigit rfl rfl rfl (Nat.le_of_ble_eq_true rfl) (Nat.le_of_ble_eq_true rfl) ⟨rfl, q_hpe (q_fin [] rfl) (q_fin [] rfl)⟩
    · have hf := q_in h2 hf
      refine q_blk 2 [] (c' := q_kc (t, r, m, z, N, ext, rx, L) I E 9 [some (.int x0)] [.int (1 : Int32)] [] []) ok_X11_isDigit rfl q_cn ?_
      cases hf
      exact q_kri ok_X11_isDigit rfl rfl rfl (Nat.le_of_ble_eq_true rfl) (Nat.le_of_ble_eq_true rfl) ⟨rfl, q_hpe (q_fin [] rfl) (q_fin [] rfl)⟩
set_option maxHeartbeats 4000000 in
theorem lp_X11_wordLength_L2_452 {g : q_G} {d mc ms : Nat} {h0 : q_H} {Q : (Option Value ⊕ String) → q_H → Prop} {k n : Nat} {t : Nat} {r : Nat} {m : Nat} {z : Nat} {N : Nat} {ext : Nat → q_Sh} {rx : Nat → Nat → Option Nat} {L : Nat → Nat → Int64} (hd : 2 ≤ d) (hk : k ≤ mc) (hn : n ≤ ms)  {v1 : Int32} : ∀ (fu : Nat) {I : Nat → Nat → Int32} {E : Nat → Nat → Option Nat} {v2 : Int32} {r0 : Int32} (hf : f_X11_wordLength_L2 (I 401) (I 452) fu v2 = some r0) (hK0 : q_J g m_X11_wordLength d mc ms h0 [] Q k n (q_kc (t, r, m, z, N, ext, rx, L) I E 18 [none, some (.int v1), some (.int r0)] [] [] [])), q_J g m_X11_wordLength d mc ms h0 [] Q k n (2, [some (.ref 452), some (.int v1), some (.int v2)], [], q_hp (t, r, m, z, N, ext, rx, L) I E) := by
  intro fu
  induction fu with
  | zero =>
    intro I E v2 r0 hf hK0
    rw [f_X11_wordLength_L2] at hf
    cases hf
  | succ fu ih =>
    intro I E v2 r0 hf hK0
    rw [f_X11_wordLength_L2] at hf
    change q_J g m_X11_wordLength d mc ms h0 [] Q k n (q_kc (t, r, m, z, N, ext, rx, L) I E 2 [some (.ref 452), some (.int v1), some (.int v2)] [] [] [])
    refine q_blf 3 [] (a := q_kc (t, r, m, z, N, ext, rx, L) I E 18 [some (.ref 452), some (.int v1), some (.int v2)] [] [] []) (b := q_kc (t, r, m, z, N, ext, rx, L) I E 6 [some (.ref 452), some (.int v1), some (.int v2)] [] [] []) (P := ((I 452) 5) ≤ v2) ok_X11_wordLength rfl q_cn (fun h1 => ?_) (fun h1 => ?_)
    · have hf := q_ip h1 hf
      refine q_less (ls' := [none, some (.int v1), some (.int v2)]) (q_sb1 (q_sb2 (q_sb2 q_sb0))) ?_
      cases hf
      exact q_Jpad [] [] rfl rfl hK0
    · have hf := q_in h1 hf
      refine q_blk 2 [] (c' := q_kc (t, r, m, z, N, ext, rx, L) I E 8 [some (.ref 452), some (.int v1), some (.int v2)] [.int v2, .ref 452] [] []) ok_X11_wordLength rfl q_cn ?_
      obtain ⟨r2, hr2, hf⟩ := q_bd hf
      refine q_kV (M2 := m_X11_at) (As := [.int v2]) (b := 452) (v2 := some (.int r2)) ok_X11_wordLength ok_X11_at cv_X11_at (ct_X11_at_452 (d := 1) (Nat.le_refl _) hr2) rfl rfl (Or.inl rfl) rfl rfl rfl rfl (Nat.le_trans (Nat.le_of_ble_eq_true rfl) hd) hk hn (Nat.le_of_ble_eq_true rfl) (fun x hx => absurd hx List.not_mem_nil) (q_nmL0 _) (q_nmS0 _) rfl (pos' := 9) (st' := [.int r2]) (lI' := []) (lE' := []) rfl rfl rfl rfl ?_
      obtain ⟨r3, hr3, hf⟩ := q_bd hf
      refine q_kS (M2 := m_X11_isLetter) (As := [.int r2]) (v2 := some (.int (q_bz r3))) ok_X11_wordLength ok_X11_isLetter cs_X11_isLetter (ct_X11_isLetter (d := 1) (Nat.le_refl _) hr3) rfl rfl (Or.inl rfl) (Nat.le_trans (Nat.le_of_ble_eq_true rfl) hd) hk hn (Nat.le_of_ble_eq_true rfl) (fun x hx => absurd hx List.not_mem_nil) (q_nmL0 _) (q_nmS0 _) rfl (pos' := 10) (st' := [.int (q_bz r3)]) (lI' := []) (lE' := []) rfl rfl rfl rfl ?_
      refine q_blf 0 [] (a := q_kc (t, r, m, z, N, ext, rx, L) I E 16 [some (.ref 452), some (.int v1), some (.int v2)] [] [] []) (b := q_kc (t, r, m, z, N, ext, rx, L) I E 11 [some (.ref 452), some (.int v1), some (.int v2)] [] [] []) (P := ¬ (q_bz r3) = 0) ok_X11_wordLength rfl q_cn (fun h4 => ?_) (fun h4 => ?_)
      · have hf := q_ip h4 hf
        refine q_blk 2 [] (c' := q_kc (t, r, m, z, N, ext, rx, L) I E 2 [some (.ref 452), some (.int v1), some (.int (v2 + 1))] [] [] []) ok_X11_wordLength rfl q_cn ?_
        exact ih (I := q_ws I []) (E := q_ws E []) hf (q_Jmrg rfl rfl hK0)
      · have hf := q_in h4 hf
        refine q_blk 2 [] (c' := q_kc (t, r, m, z, N, ext, rx, L) I E 13 [some (.ref 452), some (.int v1), some (.int v2)] [.int v2, .ref 452] [] []) ok_X11_wordLength rfl q_cn ?_
        obtain ⟨r5, hr5, hf⟩ := q_bd hf
        refine q_kV (M2 := m_X11_at) (As := [.int v2]) (b := 452) (v2 := some (.int r5)) ok_X11_wordLength ok_X11_at cv_X11_at (ct_X11_at_452 (d := 1) (Nat.le_refl _) hr5) rfl rfl (Or.inl rfl) rfl rfl rfl rfl (Nat.le_trans (Nat.le_of_ble_eq_true rfl) hd) hk hn (Nat.le_of_ble_eq_true rfl) (fun x hx => absurd hx List.not_mem_nil) (q_nmL0 _) (q_nmS0 _) rfl (pos' := 14) (st' := [.int r5]) (lI' := []) (lE' := []) rfl rfl rfl rfl ?_
        obtain ⟨r6, hr6, hf⟩ := q_bd hf
        refine q_kS (M2 := m_X11_isDigit) (As := [.int r5]) (v2 := some (.int (q_bz r6))) ok_X11_wordLength ok_X11_isDigit cs_X11_isDigit (ct_X11_isDigit (d := 1) (Nat.le_refl _) hr6) rfl rfl (Or.inl rfl) (Nat.le_trans (Nat.le_of_ble_eq_true rfl) hd) hk hn (Nat.le_of_ble_eq_true rfl) (fun x hx => absurd hx List.not_mem_nil) (q_nmL0 _) (q_nmS0 _) rfl (pos' := 15) (st' := [.int (q_bz r6)]) (lI' := []) (lE' := []) rfl rfl rfl rfl ?_
        refine q_blf 0 [] (a := q_kc (t, r, m, z, N, ext, rx, L) I E 18 [some (.ref 452), some (.int v1), some (.int v2)] [] [] []) (b := q_kc (t, r, m, z, N, ext, rx, L) I E 16 [some (.ref 452), some (.int v1), some (.int v2)] [] [] []) (P := (q_bz r6) = 0) ok_X11_wordLength rfl q_cn (fun h7 => ?_) (fun h7 => ?_)
        · have hf := q_ip h7 hf
          refine q_less (ls' := [none, some (.int v1), some (.int v2)]) (q_sb1 (q_sb2 (q_sb2 q_sb0))) ?_
          cases hf
          exact q_Jpad [] [] rfl rfl hK0
        · have hf := q_in h7 hf
          refine q_blk 2 [] (c' := q_kc (t, r, m, z, N, ext, rx, L) I E 2 [some (.ref 452), some (.int v1), some (.int (v2 + 1))] [] [] []) ok_X11_wordLength rfl q_cn ?_
          exact ih (I := q_ws I []) (E := q_ws E []) hf (q_Jmrg rfl rfl hK0)
set_option maxHeartbeats 4000000 in
theorem ct_X11_wordLength_452 {g : q_G} {t : Nat} {r : Nat} {m : Nat} {z : Nat} {N : Nat} {ext : Nat → q_Sh} {rx : Nat → Nat → Option Nat} {L : Nat → Nat → Int64} {d : Nat} (hd : 2 ≤ d)  {I : Nat → Nat → Int32} {E : Nat → Nat → Option Nat} {x1 : Int32} {r0 : Int32} (hf : f_X11_wordLength (I 401) (I 452) x1 = some r0) : q_Ct g m_X11_wordLength d 0 0 [] [.ref 452, .int x1] (q_hp (t, r, m, z, N, ext, rx, L) I E) (fun o h' => o = .inl (some (.int r0)) ∧ h' = q_hp (t, r, m, z, N, ext, rx, L) (q_ws I []) (q_ws E [])) := by
  rw [f_X11_wordLength] at hf
  refine q_Ct_of ok_X11_wordLength (Nat.le_of_ble_eq_true rfl) ?_ _ rfl rfl
  change q_J g m_X11_wordLength d 0 0 _ [] _ 0 0 (q_kc (t, r, m, z, N, ext, rx, L) I E 0 [some (.ref 452), some (.int x1), none] [] [] [])
  refine q_blk 2 [] (c' := q_kc (t, r, m, z, N, ext, rx, L) I E 2 [some (.ref 452), some (.int x1), some (.int x1)] [] [] []) ok_X11_wordLength rfl q_cn ?_
  obtain ⟨r8, hr8, hf⟩ := q_bd hf
  refine lp_X11_wordLength_L2_452 (I := q_ws I []) (E := q_ws E []) hd (Nat.le_of_ble_eq_true rfl) (Nat.le_of_ble_eq_true rfl) 4096 hr8 ?_
  refine q_Jmrg (lI' := []) (lE' := []) rfl rfl ?_
  refine q_blk 3 [] (c' := q_kc (t, r, m, z, N, ext, rx, L) I E 21 [none, some (.int x1), some (.int r8)] [.int (r8 - x1)] [] []) ok_X11_wordLength rfl q_cn ?_
  cases hf
  exact q_kri ok_X11_wordLength rfl rfl rfl (Nat.le_of_ble_eq_true rfl) (Nat.le_of_ble_eq_true rfl) ⟨rfl, q_hpe (q_fin [] rfl) (q_fin [] rfl)⟩
set_option maxHeartbeats 4000000 in
theorem ct_X11_lengthWithin {g : q_G} {t : Nat} {r : Nat} {m : Nat} {z : Nat} {N : Nat} {ext : Nat → q_Sh} {rx : Nat → Nat → Option Nat} {L : Nat → Nat → Int64} {d : Nat} (hd : 1 ≤ d)  {I : Nat → Nat → Int32} {E : Nat → Nat → Option Nat} {x0 : Int32} {x1 : Int32} {r0 : Int32} (hf : f_X11_lengthWithin x0 x1 = some r0) : q_Ct g m_X11_lengthWithin d 0 0 [] [.int x0, .int x1] (q_hp (t, r, m, z, N, ext, rx, L) I E) (fun o h' => o = .inl (some (.int r0)) ∧ h' = q_hp (t, r, m, z, N, ext, rx, L) (q_ws I []) (q_ws E [])) := by
  rw [f_X11_lengthWithin] at hf
  refine q_Ct_of ok_X11_lengthWithin (Nat.le_of_ble_eq_true rfl) ?_ _ rfl rfl
  change q_J g m_X11_lengthWithin d 0 0 _ [] _ 0 0 (q_kc (t, r, m, z, N, ext, rx, L) I E 0 [some (.int x0), some (.int x1)] [] [] [])
  refine q_blf 2 [] (a := q_kc (t, r, m, z, N, ext, rx, L) I E 5 [some (.int x0), some (.int x1)] [] [] []) (b := q_kc (t, r, m, z, N, ext, rx, L) I E 3 [some (.int x0), some (.int x1)] [] [] []) (P := x1 < x0) ok_X11_lengthWithin rfl q_cn (fun h1 => ?_) (fun h1 => ?_)
  · have hf := q_ip h1 hf
    refine q_blk 1 [] (c' := q_kc (t, r, m, z, N, ext, rx, L) I E 6 [some (.int x0), some (.int x1)] [.int (0 : Int32)] [] []) ok_X11_lengthWithin rfl q_cn ?_
    cases hf
    exact q_kri ok_X11_lengthWithin rfl rfl rfl (Nat.le_of_ble_eq_true rfl) (Nat.le_of_ble_eq_true rfl) ⟨rfl, q_hpe (q_fin [] rfl) (q_fin [] rfl)⟩
  · have hf := q_in h1 hf
    refine q_blk 2 [] (c' := q_kc (t, r, m, z, N, ext, rx, L) I E 6 [some (.int x0), some (.int x1)] [.int x0] [] []) ok_X11_lengthWithin rfl q_cn ?_
    cases hf
    exact q_kri ok_X11_lengthWithin rfl rfl rfl (Nat.le_of_ble_eq_true rfl) (Nat.le_of_ble_eq_true rfl) ⟨rfl, q_hpe (q_fin [] rfl) (q_fin [] rfl)⟩
