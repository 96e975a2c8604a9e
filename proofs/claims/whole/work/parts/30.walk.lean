set_option maxHeartbeats 4000000 in
theorem ct_X1_place_458 {g : q_G} {t : Nat} {r : Nat} {m : Nat} {z : Nat} {N : Nat} {ext : Nat → q_Sh} {rx : Nat → Nat → Option Nat} {L : Nat → Nat → Int64} {d : Nat} (hd : 1 ≤ d)  {I : Nat → Nat → Int32} {E : Nat → Nat → Option Nat} {x1 : Int32} {r0 : Int32} (hf : f_X1_place (I 460) x1 = some r0) : q_Ct g m_X1_place d 0 0 [] [.ref 458, .int x1] (q_hp (t, r, m, z, N, ext, rx, L) I E) (fun o h' => o = .inl (some (.int r0)) ∧ h' = q_hp (t, r, m, z, N, ext, rx, L) (q_ws I []) (q_ws E [])) := by
  rw [f_X1_place] at hf
  refine q_Ct_of ok_X1_place (Nat.le_of_ble_eq_true rfl) ?_ _ rfl rfl
  change q_J g m_X1_place d 0 0 _ [] _ 0 0 (q_kc (t, r, m, z, N, ext, rx, L) I E 0 [some (.ref 458), some (.int x1)] [] [] [])
  refine q_blf 1 [] (a := q_kc (t, r, m, z, N, ext, rx, L) I E 10 [some (.ref 458), some (.int x1)] [] [] []) (b := q_kc (t, r, m, z, N, ext, rx, L) I E 2 [some (.ref 458), some (.int x1)] [] [] []) (P := x1 < 0) ok_X1_place rfl q_cn (fun h1 => ?_) (fun h1 => ?_)
  · have hf := q_ip h1 hf
    refine q_blk 1 [] (c' := q_kc (t, r, m, z, N, ext, rx, L) I E 11 [some (.ref 458), some (.int x1)] [.int (0 : Int32)] [] []) ok_X1_place rfl q_cn ?_
    cases hf
    exact q_kri ok_X1_place rfl rfl rfl (Nat.le_of_ble_eq_true rfl) (Nat.le_of_ble_eq_true rfl) ⟨rfl, q_hpe (q_fin [] rfl) (q_fin [] rfl)⟩
  · have hf := q_in h1 hf
    refine q_blf 2 [] (a := q_kc (t, r, m, z, N, ext, rx, L) I E 10 [some (.ref 458), some (.int x1)] [] [] []) (b := q_kc (t, r, m, z, N, ext, rx, L) I E 5 [some (.ref 458), some (.int x1)] [] [] []) (P := (128 : Int32) ≤ x1) ok_X1_place rfl q_cn (fun h2 => ?_) (fun h2 => ?_)
    · have hf := q_ip h2 hf
      refine q_blk 1 [] (c' := q_kc (t, r, m, z, N, ext, rx, L) I E 11 [some (.ref 458), some (.int x1)] [.int (0 : Int32)] [] []) ok_X1_place rfl q_cn ?_
      cases hf
      exact q_kri ok_X1_place rfl rfl rfl (Nat.le_of_ble_eq_true rfl) (Nat.le_of_ble_eq_true rfl) ⟨rfl, q_hpe (q_fin [] rfl) (q_fin [] rfl)⟩
    · have hf := q_in h2 hf
      obtain ⟨j3, hj3, hf⟩ := q_bd hf
      refine q_blk 5 [j3] (c' := q_kc (t, r, m, z, N, ext, rx, L) I E 11 [some (.ref 458), some (.int x1)] [.int ((I 460) j3)] [] []) ok_X1_place rfl (q_cc hj3 q_cn) ?_
      cases hf
      exact q_kri ok_X1_place rfl rfl rfl (Nat.le_of_ble_eq_true rfl) (Nat.le_of_ble_eq_true rfl) ⟨rfl, q_hpe (q_fin [] rfl) (q_fin [] rfl)⟩
set_option maxHeartbeats 4000000 in
theorem lp_X1_add_L2_458 {g : q_G} {d mc ms : Nat} {h0 : q_H} {Q : (Option Value ⊕ String) → q_H → Prop} {k n : Nat} {t : Nat} {r : Nat} {m : Nat} {z : Nat} {N : Nat} {ext : Nat → q_Sh} {rx : Nat → Nat → Option Nat} {L : Nat → Nat → Int64} (hd : 1 ≤ d) (hk : k ≤ mc) (hn : n ≤ ms)  {v1 : Int32} {v2 : Int32} {v3 : Int32} : ∀ (fu : Nat) {I : Nat → Nat → Int32} {E : Nat → Nat → Option Nat} {v4 : Int32} {r0 : Nat × Int32} (hf : f_X1_add_L2 (I 459) fu v4 = some r0) (hK0 : r0.1 = 0 → q_J g m_X1_add d mc ms h0 [] Q k n (q_kc (t, r, m, z, N, ext, rx, L) I E 55 [none, none, none, none, none, none] [] [] [])) (hK1 : r0.1 = 1 → q_J g m_X1_add d mc ms h0 [] Q k n (q_kc (t, r, m, z, N, ext, rx, L) I E 10 [some (.ref 458), some (.int v1), some (.int v2), some (.int v3), some (.int r0.2), none] [] [] [])), q_J g m_X1_add d mc ms h0 [] Q k n (2, [some (.ref 458), some (.int v1), some (.int v2), some (.int v3), some (.int v4), none], [], q_hp (t, r, m, z, N, ext, rx, L) I E) := by
  intro fu
  induction fu with
  | zero =>
    intro I E v4 r0 hf hK0 hK1
    rw [f_X1_add_L2] at hf
    cases hf
  | succ fu ih =>
    intro I E v4 r0 hf hK0 hK1
    rw [f_X1_add_L2] at hf
    change q_J g m_X1_add d mc ms h0 [] Q k n (q_kc (t, r, m, z, N, ext, rx, L) I E 2 [some (.ref 458), some (.int v1), some (.int v2), some (.int v3), some (.int v4), none] [] [] [])
    refine q_blf 2 [] (a := q_kc (t, r, m, z, N, ext, rx, L) I E 55 [some (.ref 458), some (.int v1), some (.int v2), some (.int v3), some (.int v4), none] [] [] []) (b := q_kc (t, r, m, z, N, ext, rx, L) I E 5 [some (.ref 458), some (.int v1), some (.int v2), some (.int v3), some (.int v4), none] [] [] []) (P := (128 : Int32) ≤ v4) ok_X1_add rfl q_cn (fun h1 => ?_) (fun h1 => ?_)
    · have hf := q_ip h1 hf
      refine q_less (ls' := [none, none, none, none, none, none]) (q_sb1 (q_sb1 (q_sb1 (q_sb1 (q_sb1 (q_sb1 q_sb0)))))) ?_
      cases hf
      exact q_Jpad [] [] rfl rfl (hK0 rfl)
    · have hf := q_in h1 hf
      obtain ⟨j2, hj2, hf⟩ := q_bd hf
      refine q_blf 4 [j2] (a := q_kc (t, r, m, z, N, ext, rx, L) I E 53 [some (.ref 458), some (.int v1), some (.int v2), some (.int v3), some (.int v4), none] [] [] []) (b := q_kc (t, r, m, z, N, ext, rx, L) I E 10 [some (.ref 458), some (.int v1), some (.int v2), some (.int v3), some (.int v4), none] [] [] []) (P := ¬ ((I 459) j2) = 0) ok_X1_add rfl (q_cc hj2 q_cn) (fun h3 => ?_) (fun h3 => ?_)
      · have hf := q_ip h3 hf
        refine q_blk 2 [] (c' := q_kc (t, r, m, z, N, ext, rx, L) I E 2 [some (.ref 458), some (.int v1), some (.int v2), some (.int v3), some (.int (v4 + 1)), none] [] [] []) ok_X1_add rfl q_cn ?_
        exact ih (I := q_ws I []) (E := q_ws E []) hf (fun hz => q_Jmrg rfl rfl (hK0 hz)) (fun hz => q_Jmrg rfl rfl (hK1 hz))
      · have hf := q_in h3 hf
        cases hf
        exact q_Jpad [] [] rfl rfl (hK1 rfl)
set_option maxHeartbeats 4000000 in
theorem lp_X1_add_L37_458 {g : q_G} {d mc ms : Nat} {h0 : q_H} {Q : (Option Value ⊕ String) → q_H → Prop} {k n : Nat} {t : Nat} {r : Nat} {m : Nat} {z : Nat} {N : Nat} {ext : Nat → q_Sh} {rx : Nat → Nat → Option Nat} {L : Nat → Nat → Int64} (hd : 1 ≤ d) (hk : k ≤ mc) (hn : n ≤ ms)  {v4 : Int32} : ∀ (fu : Nat) {I : Nat → Nat → Int32} {E : Nat → Nat → Option Nat} {v5 : Int32} {r0 : (Nat → Int32)} (hf : f_X1_add_L37 v4 fu (I 464) v5 = some r0) (hK0 : q_J g m_X1_add d mc ms h0 [] Q k n (q_kc (t, r, m, z, N, ext, rx, L) I E 51 [none, none, none, none, some (.int v4), none] [] [(464, r0)] [])), q_J g m_X1_add d mc ms h0 [] Q k n (37, [some (.ref 458), none, none, none, some (.int v4), some (.int v5)], [], q_hp (t, r, m, z, N, ext, rx, L) I E) := by
  intro fu
  induction fu with
  | zero =>
    intro I E v5 r0 hf hK0
    rw [f_X1_add_L37] at hf
    cases hf
  | succ fu ih =>
    intro I E v5 r0 hf hK0
    rw [f_X1_add_L37] at hf
    change q_J g m_X1_add d mc ms h0 [] Q k n (q_kc (t, r, m, z, N, ext, rx, L) I E 37 [some (.ref 458), none, none, none, some (.int v4), some (.int v5)] [] [] [])
    refine q_blf 2 [] (a := q_kc (t, r, m, z, N, ext, rx, L) I E 51 [some (.ref 458), none, none, none, some (.int v4), some (.int v5)] [] [] []) (b := q_kc (t, r, m, z, N, ext, rx, L) I E 40 [some (.ref 458), none, none, none, some (.int v4), some (.int v5)] [] [] []) (P := (3 : Int32) ≤ v5) ok_X1_add rfl q_cn (fun h4 => ?_) (fun h4 => ?_)
    · have hf := q_ip h4 hf
      refine q_less (ls' := [none, none, none, none, some (.int v4), none]) (q_sb1 (q_sb1 (q_sb1 (q_sb1 (q_sb2 (q_sb1 q_sb0)))))) ?_
      cases hf
      exact q_Jpad [464] [] rfl rfl hK0
    · have hf := q_in h4 hf
      obtain ⟨j5, hj5, hf⟩ := q_bd hf
      refine q_blk 11 [j5] (c' := q_kc (t, r, m, z, N, ext, rx, L) I E 37 [some (.ref 458), none, none, none, some (.int v4), some (.int (v5 + 1))] [] [(464, (q_up (I 464) j5 (-1 : Int32)))] []) ok_X1_add rfl (q_cc hj5 q_cn) ?_
      exact ih (I := q_ws I [(464, (q_up (I 464) j5 (-1 : Int32)))]) (E := q_ws E []) hf (q_Jmrg rfl rfl hK0)
set_option maxHeartbeats 4000000 in
theorem ct_X1_add_458 {g : q_G} {t : Nat} {r : Nat} {m : Nat} {z : Nat} {N : Nat} {ext : Nat → q_Sh} {rx : Nat → Nat → Option Nat} {L : Nat → Nat → Int64} {d : Nat} (hd : 1 ≤ d)  {I : Nat → Nat → Int32} {E : Nat → Nat → Option Nat} {x1 : Int32} {x2 : Int32} {x3 : Int32} {r0 : Int32 × (Nat → Int32) × (Nat → Int32) × (Nat → Int32) × (Nat → Int32) × (Nat → Int32) × (Nat → Int32)} (hf : f_X1_add (I 459) (I 460) (I 461) (I 462) (I 463) (I 464) x1 x2 x3 = some r0) : q_Ct g m_X1_add d 0 0 [] [.ref 458, .int x1, .int x2, .int x3] (q_hp (t, r, m, z, N, ext, rx, L) I E) (fun o h' => o = .inl (some (.int r0.1)) ∧ h' = q_hp (t, r, m, z, N, ext, rx, L) (q_ws I [(459, r0.2.1), (460, r0.2.2.1), (461, r0.2.2.2.1), (462, r0.2.2.2.2.1), (463, r0.2.2.2.2.2.1), (464, r0.2.2.2.2.2.2)]) (q_ws E [])) := by
  rw [f_X1_add] at hf
  refine q_Ct_of ok_X1_add (Nat.le_of_ble_eq_true rfl) ?_ _ rfl rfl
  change q_J g m_X1_add d 0 0 _ [] _ 0 0 (q_kc (t, r, m, z, N, ext, rx, L) I E 0 [some (.ref 458), some (.int x1), some (.int x2), some (.int x3), none, none] [] [] [])
  refine q_blk 2 [] (c' := q_kc (t, r, m, z, N, ext, rx, L) I E 2 [some (.ref 458), some (.int x1), some (.int x2), some (.int x3), some (.int (0 : Int32)), none] [] [] []) ok_X1_add rfl q_cn ?_
  obtain ⟨r6, hr6, hf⟩ := q_bd hf
  refine lp_X1_add_L2_458 (I := q_ws I []) (E := q_ws E []) hd (Nat.le_of_ble_eq_true rfl) (Nat.le_of_ble_eq_true rfl) 4096 hr6 ?_ ?_
  · intro hz0
    have hf := q_ip hz0 hf
    refine q_Jmrg (lI' := []) (lE' := []) rfl rfl ?_
    refine q_blk 1 [] (c' := q_kc (t, r, m, z, N, ext, rx, L) I E 56 [none, none, none, none, none, none] [.int (-1 : Int32)] [] []) ok_X1_add rfl q_cn ?_
    cases hf
    exact q_kri ok_X1_add rfl rfl rfl (Nat.le_of_ble_eq_true rfl) (Nat.le_of_ble_eq_true rfl) ⟨rfl, q_hpe (q_fin [459, 460, 461, 462, 463, 464] rfl) (q_fin [] rfl)⟩
  · intro hz1
    have hf := q_in (fun h9 => absurd (hz1.symm.trans h9) (by decide)) hf
    refine q_Jmrg (lI' := []) (lE' := []) rfl rfl ?_
    obtain ⟨j7, hj7, hf⟩ := q_bd hf
    obtain ⟨j8, hj8, hf⟩ := q_bd hf
    obtain ⟨j9, hj9, hf⟩ := q_bd hf
    obtain ⟨j10, hj10, hf⟩ := q_bd hf
    obtain ⟨j11, hj11, hf⟩ := q_bd hf
    refine q_blk 27 [j7, j8, j9, j10, j11] (c' := q_kc (t, r, m, z, N, ext, rx, L) I E 37 [some (.ref 458), some (.int x1), some (.int x2), some (.int x3), some (.int r6.2), some (.int (0 : Int32))] [] [(459, (q_up (I 459) j7 (1 : Int32))), (460, (q_up (I 460) j8 x1)), (461, (q_up (I 461) j9 x2)), (462, (q_up (I 462) j10 (0 : Int32))), (463, (q_up (I 463) j11 x3))] []) ok_X1_add rfl (q_cc hj11 (q_cc hj10 (q_cc hj9 (q_cc hj8 (q_cc hj7 q_cn))))) ?_
    refine q_less (ls' := [some (.ref 458), none, none, none, some (.int r6.2), some (.int (0 : Int32))]) (q_sb2 (q_sb1 (q_sb1 (q_sb1 (q_sb2 (q_sb2 q_sb0)))))) ?_
    obtain ⟨r12, hr12, hf⟩ := q_bd hf
    refine lp_X1_add_L37_458 (I := q_ws I [(459, (q_up (I 459) j7 (1 : Int32))), (460, (q_up (I 460) j8 x1)), (461, (q_up (I 461) j9 x2)), (462, (q_up (I 462) j10 (0 : Int32))), (463, (q_up (I 463) j11 x3))]) (E := q_ws E []) hd (Nat.le_of_ble_eq_true rfl) (Nat.le_of_ble_eq_true rfl) 4096 hr12 ?_
    refine q_Jmrg (lI' := [(459, (q_up (I 459) j7 (1 : Int32))), (460, (q_up (I 460) j8 x1)), (461, (q_up (I 461) j9 x2)), (462, (q_up (I 462) j10 (0 : Int32))), (463, (q_up (I 463) j11 x3)), (464, r12)]) (lE' := []) rfl rfl ?_
    refine q_blk 1 [] (c' := q_kc (t, r, m, z, N, ext, rx, L) I E 52 [none, none, none, none, some (.int r6.2), none] [.int r6.2] [(459, (q_up (I 459) j7 (1 : Int32))), (460, (q_up (I 460) j8 x1)), (461, (q_up (I 461) j9 x2)), (462, (q_up (I 462) j10 (0 : Int32))), (463, (q_up (I 463) j11 x3)), (464, r12)] []) ok_X1_add rfl q_cn ?_
    cases hf
    exact q_kri ok_X1_add rfl rfl rfl (Nat.le_of_ble_eq_true rfl) (Nat.le_of_ble_eq_true rfl) ⟨rfl, q_hpe (q_fin [459, 460, 461, 462, 463, 464] rfl) (q_fin [] rfl)⟩
set_option maxHeartbeats 4000000 in
theorem ct_X1_hasRope_458 {g : q_G} {t : Nat} {r : Nat} {m : Nat} {z : Nat} {N : Nat} {ext : Nat → q_Sh} {rx : Nat → Nat → Option Nat} {L : Nat → Nat → Int64} {d : Nat} (hd : 1 ≤ d)  {I : Nat → Nat → Int32} {E : Nat → Nat → Option Nat} {x1 : Int32} {x2 : Int32} {r0 : Bool} (hf : f_X1_hasRope (I 463) x1 x2 = some r0) : q_Ct g m_X1_hasRope d 0 0 [] [.ref 458, .int x1, .int x2] (q_hp (t, r, m, z, N, ext, rx, L) I E) (fun o h' => o = .inl (some (.int (q_bz r0))) ∧ h' = q_hp (t, r, m, z, N, ext, rx, L) (q_ws I []) (q_ws E [])) := by
  rw [f_X1_hasRope] at hf
  refine q_Ct_of ok_X1_hasRope (Nat.le_of_ble_eq_true rfl) ?_ _ rfl rfl
  change q_J g m_X1_hasRope d 0 0 _ [] _ 0 0 (q_kc (t, r, m, z, N, ext, rx, L) I E 0 [some (.ref 458), some (.int x1), some (.int x2)] [] [] [])
  refine q_blf 1 [] (a := q_kc (t, r, m, z, N, ext, rx, L) I E 18 [some (.ref 458), some (.int x1), some (.int x2)] [] [] []) (b := q_kc (t, r, m, z, N, ext, rx, L) I E 2 [some (.ref 458), some (.int x1), some (.int x2)] [] [] []) (P := x1 < 0) ok_X1_hasRope rfl q_cn (fun h1 => ?_) (fun h1 => ?_)
  · have hf := q_ip h1 hf
    refine q_blk 1 [] (c' := q_kc (t, r, m, z, N, ext, rx, L) I E 19 [some (.ref 458), some (.int x1), some (.int x2)] [.int (0 : Int32)] [] []) ok_X1_hasRope rfl q_cn ?_
    cases hf
    exact q_kri ok_X1_hasRope rfl rfl rfl (Nat.le_of_ble_eq_true rfl) (Nat.le_of_ble_eq_true rfl) ⟨rfl, q_hpe (q_fin [] rfl) (q_fin [] rfl)⟩
  · have hf := q_in h1 hf
    refine q_blf 2 [] (a := q_kc (t, r, m, z, N, ext, rx, L) I E 18 [some (.ref 458), some (.int x1), some (.int x2)] [] [] []) (b := q_kc (t, r, m, z, N, ext, rx, L) I E 5 [some (.ref 458), some (.int x1), some (.int x2)] [] [] []) (P := (128 : Int32) ≤ x1) ok_X1_hasRope rfl q_cn (fun h2 => ?_) (fun h2 => ?_)
    · have hf := q_ip h2 hf
      refine q_blk 1 [] (c' := q_kc (t, r, m, z, N, ext, rx, L) I E 19 [some (.ref 458), some (.int x1), some (.int x2)] [.int (0 : Int32)] [] []) ok_X1_hasRope rfl q_cn ?_
      cases hf
      exact q_kri ok_X1_hasRope rfl rfl rfl (Nat.le_of_ble_eq_true rfl) (Nat.le_of_ble_eq_true rfl) ⟨rfl, q_hpe (q_fin [] rfl) (q_fin [] rfl)⟩
    · have hf := q_in h2 hf
      refine q_blf 1 [] (a := q_kc (t, r, m, z, N, ext, rx, L) I E 18 [some (.ref 458), some (.int x1), some (.int x2)] [] [] []) (b := q_kc (t, r, m, z, N, ext, rx, L) I E 7 [some (.ref 458), some (.int x1), some (.int x2)] [] [] []) (P := x2 < 0) ok_X1_hasRope rfl q_cn (fun h3 => ?_) (fun h3 => ?_)
      · have hf := q_ip h3 hf
        refine q_blk 1 [] (c' := q_kc (t, r, m, z, N, ext, rx, L) I E 19 [some (.ref 458), some (.int x1), some (.int x2)] [.int (0 : Int32)] [] []) ok_X1_hasRope rfl q_cn ?_
        cases hf
        exact q_kri ok_X1_hasRope rfl rfl rfl (Nat.le_of_ble_eq_true rfl) (Nat.le_of_ble_eq_true rfl) ⟨rfl, q_hpe (q_fin [] rfl) (q_fin [] rfl)⟩
      · have hf := q_in h3 hf
        refine q_blf 2 [] (a := q_kc (t, r, m, z, N, ext, rx, L) I E 18 [some (.ref 458), some (.int x1), some (.int x2)] [] [] []) (b := q_kc (t, r, m, z, N, ext, rx, L) I E 10 [some (.ref 458), some (.int x1), some (.int x2)] [] [] []) (P := (3 : Int32) ≤ x2) ok_X1_hasRope rfl q_cn (fun h4 => ?_) (fun h4 => ?_)
        · have hf := q_ip h4 hf
          refine q_blk 1 [] (c' := q_kc (t, r, m, z, N, ext, rx, L) I E 19 [some (.ref 458), some (.int x1), some (.int x2)] [.int (0 : Int32)] [] []) ok_X1_hasRope rfl q_cn ?_
          cases hf
          exact q_kri ok_X1_hasRope rfl rfl rfl (Nat.le_of_ble_eq_true rfl) (Nat.le_of_ble_eq_true rfl) ⟨rfl, q_hpe (q_fin [] rfl) (q_fin [] rfl)⟩
        · have hf := q_in h4 hf
          obtain ⟨j5, hj5, hf⟩ := q_bd hf
          refine q_blf 5 [j5] (a := q_kc (t, r, m, z, N, ext, rx, L) I E 18 [some (.ref 458), some (.int x1), some (.int x2)] [] [] []) (b := q_kc (t, r, m, z, N, ext, rx, L) I E 16 [some (.ref 458), some (.int x1), some (.int x2)] [] [] []) (P := ((I 463) j5) ≤ x2) ok_X1_hasRope rfl (q_cc hj5 q_cn) (fun h6 => ?_) (fun h6 => ?_)
          · have hf := q_ip h6 hf
            refine q_blk 1 [] (c' := q_kc (t, r, m, z, N, ext, rx, L) I E 19 [some (.ref 458), some (.int x1), some (.int x2)] [.int (0 : Int32)] [] []) ok_X1_hasRope rfl q_cn ?_
            cases hf
            exact q_kri ok_X1_hasRope rfl rfl rfl (Nat.le_of_ble_eq_true rfl) (Nat.le_of_ble_eq_true rfl) ⟨rfl, q_hpe (q_fin [] rfl) (q_fin [] rfl)⟩
          · have hf := q_in h6 hf
            refine q_blk 2 [] (c' := q_kc (t, r, m, z, N, ext, rx, L) I E 19 [some (.ref 458), some (.int x1), some (.int x2)] [.int (1 : Int32)] [] []) ok_X1_hasRope rfl q_cn ?_
            cases hf
            exact q_kri ok_X1_hasRope rfl rfl rfl (Nat.le_of_ble_eq_true rfl) (Nat.le_of_ble_eq_true rfl) ⟨rfl, q_hpe (q_fin [] rfl) (q_fin [] rfl)⟩
set_option maxHeartbeats 4000000 in
theorem ct_X1_lead_458 {g : q_G} {t : Nat} {r : Nat} {m : Nat} {z : Nat} {N : Nat} {ext : Nat → q_Sh} {rx : Nat → Nat → Option Nat} {L : Nat → Nat → Int64} {d : Nat} (hd : 2 ≤ d)  {I : Nat → Nat → Int32} {E : Nat → Nat → Option Nat} {x1 : Int32} {x2 : Int32} {r0 : Int32} (hf : f_X1_lead (I 463) (I 464) x1 x2 = some r0) : q_Ct g m_X1_lead d 0 0 [] [.ref 458, .int x1, .int x2] (q_hp (t, r, m, z, N, ext, rx, L) I E) (fun o h' => o = .inl (some (.int r0)) ∧ h' = q_hp (t, r, m, z, N, ext, rx, L) (q_ws I []) (q_ws E [])) := by
  rw [f_X1_lead] at hf
  refine q_Ct_of ok_X1_lead (Nat.le_of_ble_eq_true rfl) ?_ _ rfl rfl
  change q_J g m_X1_lead d 0 0 _ [] _ 0 0 (q_kc (t, r, m, z, N, ext, rx, L) I E 0 [some (.ref 458), some (.int x1), some (.int x2)] [] [] [])
  refine q_blk 3 [] (c' := q_kc (t, r, m, z, N, ext, rx, L) I E 3 [some (.ref 458), some (.int x1), some (.int x2)] [.int x2, .int x1, .ref 458] [] []) ok_X1_lead rfl q_cn ?_
  obtain ⟨r1, hr1, hf⟩ := q_bd hf
  refine q_kV (M2 := m_X1_hasRope) (As := [.int x1, .int x2]) (b := 458) (v2 := some (.int (q_bz r1))) ok_X1_lead ok_X1_hasRope cv_X1_hasRope (ct_X1_hasRope_458 (d := 1) (Nat.le_refl _) hr1) rfl rfl (Or.inl rfl) rfl rfl rfl rfl (Nat.le_trans (Nat.le_of_ble_eq_true rfl) hd) (Nat.le_of_ble_eq_true rfl) (Nat.le_of_ble_eq_true rfl) (Nat.le_of_ble_eq_true rfl) (fun x hx => absurd hx List.not_mem_nil) (q_nmL0 _) (q_nmS0 _) rfl (pos' := 4) (st' := [.int (q_bz r1)]) (lI' := []) (lE' := []) rfl rfl rfl rfl ?_
  refine q_blf 0 [] (a := q_kc (t, r, m, z, N, ext, rx, L) I E 14 [some (.ref 458), some (.int x1), some (.int x2)] [] [] []) (b := q_kc (t, r, m, z, N, ext, rx, L) I E 5 [some (.ref 458), some (.int x1), some (.int x2)] [] [] []) (P := (q_bz r1) = 0) ok_X1_lead rfl q_cn (fun h2 => ?_) (fun h2 => ?_)
  · have hf := q_ip h2 hf
    refine q_blk 1 [] (c' := q_kc (t, r, m, z, N, ext, rx, L) I E 15 [some (.ref 458), some (.int x1), some (.int x2)] [.int (-1 : Int32)] [] []) ok_X1_lead rfl q_cn ?_
    cases hf
    exact q_kri ok_X1_lead rfl rfl rfl (Nat.le_of_ble_eq_true rfl) (Nat.le_of_ble_eq_true rfl) ⟨rfl, q_hpe (q_fin [] rfl) (q_fin [] rfl)⟩
  · have hf := q_in h2 hf
    obtain ⟨j3, hj3, hf⟩ := q_bd hf
    refine q_blk 9 [j3] (c' := q_kc (t, r, m, z, N, ext, rx, L) I E 15 [some (.ref 458), some (.int x1), some (.int x2)] [.int ((I 464) j3)] [] []) ok_X1_lead rfl (q_cc hj3 q_cn) ?_
    cases hf
    exact q_kri ok_X1_lead rfl rfl rfl (Nat.le_of_ble_eq_true rfl) (Nat.le_of_ble_eq_true rfl) ⟨rfl, q_hpe (q_fin [] rfl) (q_fin [] rfl)⟩
set_option maxHeartbeats 4000000 in
theorem ct_X1_ropes_458 {g : q_G} {t : Nat} {r : Nat} {m : Nat} {z : Nat} {N : Nat} {ext : Nat → q_Sh} {rx : Nat → Nat → Option Nat} {L : Nat → Nat → Int64} {d : Nat} (hd : 1 ≤ d)  {I : Nat → Nat → Int32} {E : Nat → Nat → Option Nat} {x1 : Int32} {r0 : Int32} (hf : f_X1_ropes (I 463) x1 = some r0) : q_Ct g m_X1_ropes d 0 0 [] [.ref 458, .int x1] (q_hp (t, r, m, z, N, ext, rx, L) I E) (fun o h' => o = .inl (some (.int r0)) ∧ h' = q_hp (t, r, m, z, N, ext, rx, L) (q_ws I []) (q_ws E [])) := by
  rw [f_X1_ropes] at hf
  refine q_Ct_of ok_X1_ropes (Nat.le_of_ble_eq_true rfl) ?_ _ rfl rfl
  change q_J g m_X1_ropes d 0 0 _ [] _ 0 0 (q_kc (t, r, m, z, N, ext, rx, L) I E 0 [some (.ref 458), some (.int x1)] [] [] [])
  refine q_blf 1 [] (a := q_kc (t, r, m, z, N, ext, rx, L) I E 10 [some (.ref 458), some (.int x1)] [] [] []) (b := q_kc (t, r, m, z, N, ext, rx, L) I E 2 [some (.ref 458), some (.int x1)] [] [] []) (P := x1 < 0) ok_X1_ropes rfl q_cn (fun h1 => ?_) (fun h1 => ?_)
  · have hf := q_ip h1 hf
    refine q_blk 1 [] (c' := q_kc (t, r, m, z, N, ext, rx, L) I E 11 [some (.ref 458), some (.int x1)] [.int (0 : Int32)] [] []) ok_X1_ropes rfl q_cn ?_
    cases hf
    exact q_kri ok_X1_ropes rfl rfl rfl (Nat.le_of_ble_eq_true rfl) (Nat.le_of_ble_eq_true rfl) ⟨rfl, q_hpe (q_fin [] rfl) (q_fin [] rfl)⟩
  · have hf := q_in h1 hf
    refine q_blf 2 [] (a := q_kc (t, r, m, z, N, ext, rx, L) I E 10 [some (.ref 458), some (.int x1)] [] [] []) (b := q_kc (t, r, m, z, N, ext, rx, L) I E 5 [some (.ref 458), some (.int x1)] [] [] []) (P := (128 : Int32) ≤ x1) ok_X1_ropes rfl q_cn (fun h2 => ?_) (fun h2 => ?_)
    · have hf := q_ip h2 hf
      refine q_blk 1 [] (c' := q_kc (t, r, m, z, N, ext, rx, L) I E 11 [some (.ref 458), some (.int x1)] [.int (0 : Int32)] [] []) ok_X1_ropes rfl q_cn ?_
      cases hf
      exact q_kri ok_X1_ropes rfl rfl rfl (Nat.le_of_ble_eq_true rfl) (Nat.le_of_ble_eq_true rfl) ⟨rfl, q_hpe (q_fin [] rfl) (q_fin [] rfl)⟩
    · have hf := q_in h2 hf
      obtain ⟨j3, hj3, hf⟩ := q_bd hf
      refine q_blk 5 [j3] (c' := q_kc (t, r, m, z, N, ext, rx, L) I E 11 [some (.ref 458), some (.int x1)] [.int ((I 463) j3)] [] []) ok_X1_ropes rfl (q_cc hj3 q_cn) ?_
      cases hf
      exact q_kri ok_X1_ropes rfl rfl rfl (Nat.le_of_ble_eq_true rfl) (Nat.le_of_ble_eq_true rfl) ⟨rfl, q_hpe (q_fin [] rfl) (q_fin [] rfl)⟩
set_option maxHeartbeats 4000000 in
theorem lp_X1_leadCount_L4_458 {g : q_G} {d mc ms : Nat} {h0 : q_H} {Q : (Option Value ⊕ String) → q_H → Prop} {k n : Nat} {t : Nat} {r : Nat} {m : Nat} {z : Nat} {N : Nat} {ext : Nat → q_Sh} {rx : Nat → Nat → Option Nat} {L : Nat → Nat → Int64} (hd : 3 ≤ d) (hk : k ≤ mc) (hn : n ≤ ms)  {v1 : Int32} : ∀ (fu : Nat) {I : Nat → Nat → Int32} {E : Nat → Nat → Option Nat} {v2 : Int32} {v3 : Int32} {r0 : Int32} (hf : f_X1_leadCount_L4 (I 463) (I 464) v1 fu v2 v3 = some r0) (hK0 : q_J g m_X1_leadCount d mc ms h0 [] Q k n (q_kc (t, r, m, z, N, ext, rx, L) I E 18 [none, none, some (.int r0), none] [] [] [])), q_J g m_X1_leadCount d mc ms h0 [] Q k n (4, [some (.ref 458), some (.int v1), some (.int v2), some (.int v3)], [], q_hp (t, r, m, z, N, ext, rx, L) I E) := by
  intro fu
  induction fu with
  | zero =>
    intro I E v2 v3 r0 hf hK0
    rw [f_X1_leadCount_L4] at hf
    cases hf
  | succ fu ih =>
    intro I E v2 v3 r0 hf hK0
    rw [f_X1_leadCount_L4] at hf
    change q_J g m_X1_leadCount d mc ms h0 [] Q k n (q_kc (t, r, m, z, N, ext, rx, L) I E 4 [some (.ref 458), some (.int v1), some (.int v2), some (.int v3)] [] [] [])
    refine q_blk 3 [] (c' := q_kc (t, r, m, z, N, ext, rx, L) I E 7 [some (.ref 458), some (.int v1), some (.int v2), some (.int v3)] [.int v1, .ref 458, .int v3] [] []) ok_X1_leadCount rfl q_cn ?_
    obtain ⟨r1, hr1, hf⟩ := q_bd hf
    refine q_kV (M2 := m_X1_ropes) (As := [.int v1]) (b := 458) (v2 := some (.int r1)) ok_X1_leadCount ok_X1_ropes cv_X1_ropes (ct_X1_ropes_458 (d := 1) (Nat.le_refl _) hr1) rfl rfl (Or.inl rfl) rfl rfl rfl rfl (Nat.le_trans (Nat.le_of_ble_eq_true rfl) hd) hk hn (Nat.le_of_ble_eq_true rfl) (fun x hx => absurd hx List.not_mem_nil) (q_nmL0 _) (q_nmS0 _) rfl (pos' := 8) (st' := [.int r1, .int v3]) (lI' := []) (lE' := []) rfl rfl rfl rfl ?_
    refine q_blf 0 [] (a := q_kc (t, r, m, z, N, ext, rx, L) I E 18 [some (.ref 458), some (.int v1), some (.int v2), some (.int v3)] [] [] []) (b := q_kc (t, r, m, z, N, ext, rx, L) I E 9 [some (.ref 458), some (.int v1), some (.int v2), some (.int v3)] [] [] []) (P := r1 ≤ v3) ok_X1_leadCount rfl q_cn (fun h2 => ?_) (fun h2 => ?_)
    · have hf := q_ip h2 hf
      refine q_less (ls' := [none, none, some (.int v2), none]) (q_sb1 (q_sb1 (q_sb2 (q_sb1 q_sb0)))) ?_
      cases hf
      exact q_Jpad [] [] rfl rfl hK0
    · have hf := q_in h2 hf
      refine q_blk 3 [] (c' := q_kc (t, r, m, z, N, ext, rx, L) I E 12 [some (.ref 458), some (.int v1), some (.int v2), some (.int v3)] [.int v3, .int v1, .ref 458] [] []) ok_X1_leadCount rfl q_cn ?_
      obtain ⟨r3, hr3, hf⟩ := q_bd hf
      refine q_kV (M2 := m_X1_lead) (As := [.int v1, .int v3]) (b := 458) (v2 := some (.int r3)) ok_X1_leadCount ok_X1_lead cv_X1_lead (ct_X1_lead_458 (d := 2) (Nat.le_refl _) hr3) rfl rfl (Or.inl rfl) rfl rfl rfl rfl (Nat.le_trans (Nat.le_of_ble_eq_true rfl) hd) hk hn (Nat.le_of_ble_eq_true rfl) (fun x hx => absurd hx List.not_mem_nil) (q_nmL0 _) (q_nmS0 _) rfl (pos' := 13) (st' := [.int r3]) (lI' := []) (lE' := []) rfl rfl rfl rfl ?_
      refine q_blf 1 [] (a := q_kc (t, r, m, z, N, ext, rx, L) I E 16 [some (.ref 458), some (.int v1), some (.int v2), some (.int v3)] [] [] []) (b := q_kc (t, r, m, z, N, ext, rx, L) I E 15 [some (.ref 458), some (.int v1), some (.int v2), some (.int v3)] [] [] []) (P := r3 = (-1 : Int32)) ok_X1_leadCount rfl q_cn (fun h4 => ?_) (fun h4 => ?_)
      · have hf := q_ip h4 hf
        refine q_blk 2 [] (c' := q_kc (t, r, m, z, N, ext, rx, L) I E 4 [some (.ref 458), some (.int v1), some (.int v2), some (.int (v3 + 1))] [] [] []) ok_X1_leadCount rfl q_cn ?_
        exact ih (I := q_ws I []) (E := q_ws E []) hf (q_Jmrg rfl rfl hK0)
      · have hf := q_in h4 hf
        refine q_blk 3 [] (c' := q_kc (t, r, m, z, N, ext, rx, L) I E 4 [some (.ref 458), some (.int v1), some (.int (v2 + 1)), some (.int (v3 + 1))] [] [] []) ok_X1_leadCount rfl q_cn ?_
        exact ih (I := q_ws I []) (E := q_ws E []) hf (q_Jmrg rfl rfl hK0)
set_option maxHeartbeats 4000000 in
theorem ct_X1_leadCount_458 {g : q_G} {t : Nat} {r : Nat} {m : Nat} {z : Nat} {N : Nat} {ext : Nat → q_Sh} {rx : Nat → Nat → Option Nat} {L : Nat → Nat → Int64} {d : Nat} (hd : 3 ≤ d)  {I : Nat → Nat → Int32} {E : Nat → Nat → Option Nat} {x1 : Int32} {r0 : Int32} (hf : f_X1_leadCount (I 463) (I 464) x1 = some r0) : q_Ct g m_X1_leadCount d 0 0 [] [.ref 458, .int x1] (q_hp (t, r, m, z, N, ext, rx, L) I E) (fun o h' => o = .inl (some (.int r0)) ∧ h' = q_hp (t, r, m, z, N, ext, rx, L) (q_ws I []) (q_ws E [])) := by
  rw [f_X1_leadCount] at hf
  refine q_Ct_of ok_X1_leadCount (Nat.le_of_ble_eq_true rfl) ?_ _ rfl rfl
  change q_J g m_X1_leadCount d 0 0 _ [] _ 0 0 (q_kc (t, r, m, z, N, ext, rx, L) I E 0 [some (.ref 458), some (.int x1), none, none] [] [] [])
  refine q_blk 4 [] (c' := q_kc (t, r, m, z, N, ext, rx, L) I E 4 [some (.ref 458), some (.int x1), some (.int (0 : Int32)), some (.int (0 : Int32))] [] [] []) ok_X1_leadCount rfl q_cn ?_
  obtain ⟨r5, hr5, hf⟩ := q_bd hf
  refine lp_X1_leadCount_L4_458 (I := q_ws I []) (E := q_ws E []) hd (Nat.le_of_ble_eq_true rfl) (Nat.le_of_ble_eq_true rfl) 4096 hr5 ?_
  refine q_Jmrg (lI' := []) (lE' := []) rfl rfl ?_
  refine q_blk 1 [] (c' := q_kc (t, r, m, z, N, ext, rx, L) I E 19 [none, none, some (.int r5), none] [.int r5] [] []) ok_X1_leadCount rfl q_cn ?_
  cases hf
  exact q_kri ok_X1_leadCount rfl rfl rfl (Nat.le_of_ble_eq_true rfl) (Nat.le_of_ble_eq_true rfl) ⟨rfl, q_hpe (q_fin [] rfl) (q_fin [] rfl)⟩
set_option maxHeartbeats 4000000 in
theorem ct_X1_isGone_458 {g : q_G} {t : Nat} {r : Nat} {m : Nat} {z : Nat} {N : Nat} {ext : Nat → q_Sh} {rx : Nat → Nat → Option Nat} {L : Nat → Nat → Int64} {d : Nat} (hd : 1 ≤ d)  {I : Nat → Nat → Int32} {E : Nat → Nat → Option Nat} {x1 : Int32} {r0 : Bool} (hf : f_X1_isGone (I 459) x1 = some r0) : q_Ct g m_X1_isGone d 0 0 [] [.ref 458, .int x1] (q_hp (t, r, m, z, N, ext, rx, L) I E) (fun o h' => o = .inl (some (.int (q_bz r0))) ∧ h' = q_hp (t, r, m, z, N, ext, rx, L) (q_ws I []) (q_ws E [])) := by
  rw [f_X1_isGone] at hf
  refine q_Ct_of ok_X1_isGone (Nat.le_of_ble_eq_true rfl) ?_ _ rfl rfl
  change q_J g m_X1_isGone d 0 0 _ [] _ 0 0 (q_kc (t, r, m, z, N, ext, rx, L) I E 0 [some (.ref 458), some (.int x1)] [] [] [])
  refine q_blf 1 [] (a := q_kc (t, r, m, z, N, ext, rx, L) I E 10 [some (.ref 458), some (.int x1)] [] [] []) (b := q_kc (t, r, m, z, N, ext, rx, L) I E 2 [some (.ref 458), some (.int x1)] [] [] []) (P := x1 < 0) ok_X1_isGone rfl q_cn (fun h1 => ?_) (fun h1 => ?_)
  · have hf := q_ip h1 hf
    refine q_blk 2 [] (c' := q_kc (t, r, m, z, N, ext, rx, L) I E 13 [some (.ref 458), some (.int x1)] [.int (1 : Int32)] [] []) ok_X1_isGone rfl q_cn ?_
    cases hf
    exact q_kri ok_X1_isGone rfl rfl rfl (Nat.le_of_ble_eq_true rfl) (Nat.le_of_ble_eq_true rfl) ⟨rfl, q_hpe (q_fin [] rfl) (q_fin [] rfl)⟩
  · have hf := q_in h1 hf
    refine q_blf 2 [] (a := q_kc (t, r, m, z, N, ext, rx, L) I E 10 [some (.ref 458), some (.int x1)] [] [] []) (b := q_kc (t, r, m, z, N, ext, rx, L) I E 5 [some (.ref 458), some (.int x1)] [] [] []) (P := (128 : Int32) ≤ x1) ok_X1_isGone rfl q_cn (fun h2 => ?_) (fun h2 => ?_)
    · have hf := q_ip h2 hf
      refine q_blk 2 [] (c' := q_kc (t, r, m, z, N, ext, rx, L) I E 13 [some (.ref 458), some (.int x1)] [.int (1 : Int32)] [] []) ok_X1_isGone rfl q_cn ?_
      cases hf
      exact q_kri ok_X1_isGone rfl rfl rfl (Nat.le_of_ble_eq_true rfl) (Nat.le_of_ble_eq_true rfl) ⟨rfl, q_hpe (q_fin [] rfl) (q_fin [] rfl)⟩
    · have hf := q_in h2 hf
      obtain ⟨j3, hj3, hf⟩ := q_bd hf
      refine q_blf 4 [j3] (a := q_kc (t, r, m, z, N, ext, rx, L) I E 12 [some (.ref 458), some (.int x1)] [] [] []) (b := q_kc (t, r, m, z, N, ext, rx, L) I E 10 [some (.ref 458), some (.int x1)] [] [] []) (P := ¬ ((I 459) j3) = 0) ok_X1_isGone rfl (q_cc hj3 q_cn) (fun h4 => ?_) (fun h4 => ?_)
      · have hf := q_ip h4 hf
        refine q_blk 1 [] (c' := q_kc (t, r, m, z, N, ext, rx, L) I E 13 [some (.ref 458), some (.int x1)] [.int (0 : Int32)] [] []) ok_X1_isGone rfl q_cn ?_
        cases hf
        exact q_kri ok_X1_isGone rfl rfl rfl (Nat.le_of_ble_eq_true rfl) (Nat.le_of_ble_eq_true rfl) ⟨rfl, q_hpe (q_fin [] rfl) (q_fin [] rfl)⟩
      · have hf := q_in h4 hf
        refine q_blk 2 [] (c' := q_kc (t, r, m, z, N, ext, rx, L) I E 13 [some (.ref 458), some (.int x1)] [.int (1 : Int32)] [] []) ok_X1_isGone rfl q_cn ?_
        cases hf
        exact q_kri ok_X1_isGone rfl rfl rfl (Nat.le_of_ble_eq_true rfl) (Nat.le_of_ble_eq_true rfl) ⟨rfl, q_hpe (q_fin [] rfl) (q_fin [] rfl)⟩
set_option maxHeartbeats 4000000 in
theorem ct_X1_setLead_458 {g : q_G} {t : Nat} {r : Nat} {m : Nat} {z : Nat} {N : Nat} {ext : Nat → q_Sh} {rx : Nat → Nat → Option Nat} {L : Nat → Nat → Int64} {d : Nat} (hd : 2 ≤ d)  {I : Nat → Nat → Int32} {E : Nat → Nat → Option Nat} {x1 : Int32} {x2 : Int32} {x3 : Int32} {r0 : (Nat → Int32)} (hf : f_X1_setLead (I 463) (I 464) x1 x2 x3 = some r0) : q_Ct g m_X1_setLead d 0 0 [] [.ref 458, .int x1, .int x2, .int x3] (q_hp (t, r, m, z, N, ext, rx, L) I E) (fun o h' => o = .inl none ∧ h' = q_hp (t, r, m, z, N, ext, rx, L) (q_ws I [(464, r0)]) (q_ws E [])) := by
  rw [f_X1_setLead] at hf
  refine q_Ct_of ok_X1_setLead (Nat.le_of_ble_eq_true rfl) ?_ _ rfl rfl
  change q_J g m_X1_setLead d 0 0 _ [] _ 0 0 (q_kc (t, r, m, z, N, ext, rx, L) I E 0 [some (.ref 458), some (.int x1), some (.int x2), some (.int x3)] [] [] [])
  refine q_blk 3 [] (c' := q_kc (t, r, m, z, N, ext, rx, L) I E 3 [some (.ref 458), some (.int x1), some (.int x2), some (.int x3)] [.int x2, .int x1, .ref 458] [] []) ok_X1_setLead rfl q_cn ?_
  obtain ⟨r1, hr1, hf⟩ := q_bd hf
  refine q_kV (M2 := m_X1_hasRope) (As := [.int x1, .int x2]) (b := 458) (v2 := some (.int (q_bz r1))) ok_X1_setLead ok_X1_hasRope cv_X1_hasRope (ct_X1_hasRope_458 (d := 1) (Nat.le_refl _) hr1) rfl rfl (Or.inl rfl) rfl rfl rfl rfl (Nat.le_trans (Nat.le_of_ble_eq_true rfl) hd) (Nat.le_of_ble_eq_true rfl) (Nat.le_of_ble_eq_true rfl) (Nat.le_of_ble_eq_true rfl) (fun x hx => absurd hx List.not_mem_nil) (q_nmL0 _) (q_nmS0 _) rfl (pos' := 4) (st' := [.int (q_bz r1)]) (lI' := []) (lE' := []) rfl rfl rfl rfl ?_
  refine q_blf 0 [] (a := q_kc (t, r, m, z, N, ext, rx, L) I E 14 [some (.ref 458), some (.int x1), some (.int x2), some (.int x3)] [] [] []) (b := q_kc (t, r, m, z, N, ext, rx, L) I E 5 [some (.ref 458), some (.int x1), some (.int x2), some (.int x3)] [] [] []) (P := (q_bz r1) = 0) ok_X1_setLead rfl q_cn (fun h2 => ?_) (fun h2 => ?_)
  · have hf := q_ip h2 hf
    cases hf
    exact q_krv ok_X1_setLead rfl rfl (Nat.le_of_ble_eq_true rfl) (Nat.le_of_ble_eq_true rfl) ⟨rfl, q_hpe (q_fin [464] rfl) (q_fin [] rfl)⟩
  · have hf := q_in h2 hf
    obtain ⟨j3, hj3, hf⟩ := q_bd hf
    refine q_blk 9 [j3] (c' := q_kc (t, r, m, z, N, ext, rx, L) I E 14 [some (.ref 458), some (.int x1), some (.int x2), some (.int x3)] [] [(464, (q_up (I 464) j3 x3))] []) ok_X1_setLead rfl (q_cc hj3 q_cn) ?_
    cases hf
    exact q_krv ok_X1_setLead rfl rfl (Nat.le_of_ble_eq_true rfl) (Nat.le_of_ble_eq_true rfl) ⟨rfl, q_hpe (q_fin [464] rfl) (q_fin [] rfl)⟩
set_option maxHeartbeats 4000000 in
theorem lp_X1_untieFromGone_L7_458 {g : q_G} {d mc ms : Nat} {h0 : q_H} {Q : (Option Value ⊕ String) → q_H → Prop} {k n : Nat} {t : Nat} {r : Nat} {m : Nat} {z : Nat} {N : Nat} {ext : Nat → q_Sh} {rx : Nat → Nat → Option Nat} {L : Nat → Nat → Int64} (hd : 3 ≤ d) (hk : k ≤ mc) (hn : n ≤ ms)  {v1 : Int32} : ∀ (fu : Nat) {I : Nat → Nat → Int32} {E : Nat → Nat → Option Nat} {v2 : Int32} {r0 : (Nat → Int32)} (hf : f_X1_untieFromGone_L7 (I 459) (I 463) v1 fu (I 464) v2 = some r0) (hK0 : q_J g m_X1_untieFromGone d mc ms h0 [] Q k n (q_kc (t, r, m, z, N, ext, rx, L) I E 26 [some (.ref 458), some (.int v1), none] [] [(464, r0)] [])), q_J g m_X1_untieFromGone d mc ms h0 [] Q k n (7, [some (.ref 458), some (.int v1), some (.int v2)], [], q_hp (t, r, m, z, N, ext, rx, L) I E) := by
  intro fu
  induction fu with
  | zero =>
    intro I E v2 r0 hf hK0
    rw [f_X1_untieFromGone_L7] at hf
    cases hf
  | succ fu ih =>
    intro I E v2 r0 hf hK0
    rw [f_X1_untieFromGone_L7] at hf
    change q_J g m_X1_untieFromGone d mc ms h0 [] Q k n (q_kc (t, r, m, z, N, ext, rx, L) I E 7 [some (.ref 458), some (.int v1), some (.int v2)] [] [] [])
    refine q_blk 3 [] (c' := q_kc (t, r, m, z, N, ext, rx, L) I E 10 [some (.ref 458), some (.int v1), some (.int v2)] [.int v1, .ref 458, .int v2] [] []) ok_X1_untieFromGone rfl q_cn ?_
    obtain ⟨r1, hr1, hf⟩ := q_bd hf
    refine q_kV (M2 := m_X1_ropes) (As := [.int v1]) (b := 458) (v2 := some (.int r1)) ok_X1_untieFromGone ok_X1_ropes cv_X1_ropes (ct_X1_ropes_458 (d := 1) (Nat.le_refl _) hr1) rfl rfl (Or.inl rfl) rfl rfl rfl rfl (Nat.le_trans (Nat.le_of_ble_eq_true rfl) hd) hk hn (Nat.le_of_ble_eq_true rfl) (fun x hx => absurd hx List.not_mem_nil) (q_nmL0 _) (q_nmS0 _) rfl (pos' := 11) (st' := [.int r1, .int v2]) (lI' := []) (lE' := []) rfl rfl rfl rfl ?_
    refine q_blf 0 [] (a := q_kc (t, r, m, z, N, ext, rx, L) I E 26 [some (.ref 458), some (.int v1), some (.int v2)] [] [] []) (b := q_kc (t, r, m, z, N, ext, rx, L) I E 12 [some (.ref 458), some (.int v1), some (.int v2)] [] [] []) (P := r1 ≤ v2) ok_X1_untieFromGone rfl q_cn (fun h2 => ?_) (fun h2 => ?_)
    · have hf := q_ip h2 hf
      refine q_less (ls' := [some (.ref 458), some (.int v1), none]) (q_sb2 (q_sb2 (q_sb1 q_sb0))) ?_
      cases hf
      exact q_Jpad [464] [] rfl rfl hK0
    · have hf := q_in h2 hf
      refine q_blk 4 [] (c' := q_kc (t, r, m, z, N, ext, rx, L) I E 16 [some (.ref 458), some (.int v1), some (.int v2)] [.int v2, .int v1, .ref 458, .ref 458] [] []) ok_X1_untieFromGone rfl q_cn ?_
      obtain ⟨r3, hr3, hf⟩ := q_bd hf
      refine q_kV (M2 := m_X1_lead) (As := [.int v1, .int v2]) (b := 458) (v2 := some (.int r3)) ok_X1_untieFromGone ok_X1_lead cv_X1_lead (ct_X1_lead_458 (d := 2) (Nat.le_refl _) hr3) rfl rfl (Or.inl rfl) rfl rfl rfl rfl (Nat.le_trans (Nat.le_of_ble_eq_true rfl) hd) hk hn (Nat.le_of_ble_eq_true rfl) (fun x hx => absurd hx List.not_mem_nil) (q_nmL0 _) (q_nmS0 _) rfl (pos' := 17) (st' := [.int r3, .ref 458]) (lI' := []) (lE' := []) rfl rfl rfl rfl ?_
      obtain ⟨r4, hr4, hf⟩ := q_bd hf
      refine q_kV (M2 := m_X1_isGone) (As := [.int r3]) (b := 458) (v2 := some (.int (q_bz r4))) ok_X1_untieFromGone ok_X1_isGone cv_X1_isGone (ct_X1_isGone_458 (d := 1) (Nat.le_refl _) hr4) rfl rfl (Or.inl rfl) rfl rfl rfl rfl (Nat.le_trans (Nat.le_of_ble_eq_true rfl) hd) hk hn (Nat.le_of_ble_eq_true rfl) (fun x hx => absurd hx List.not_mem_nil) (q_nmL0 _) (q_nmS0 _) rfl (pos' := 18) (st' := [.int (q_bz r4)]) (lI' := []) (lE' := []) rfl rfl rfl rfl ?_
      refine q_blf 0 [] (a := q_kc (t, r, m, z, N, ext, rx, L) I E 24 [some (.ref 458), some (.int v1), some (.int v2)] [] [] []) (b := q_kc (t, r, m, z, N, ext, rx, L) I E 19 [some (.ref 458), some (.int v1), some (.int v2)] [] [] []) (P := (q_bz r4) = 0) ok_X1_untieFromGone rfl q_cn (fun h5 => ?_) (fun h5 => ?_)
      · have hf := q_ip h5 hf
        refine q_blk 2 [] (c' := q_kc (t, r, m, z, N, ext, rx, L) I E 7 [some (.ref 458), some (.int v1), some (.int (v2 + 1))] [] [] []) ok_X1_untieFromGone rfl q_cn ?_
        exact ih (I := q_ws I []) (E := q_ws E []) hf (q_Jmrg rfl rfl hK0)
      · have hf := q_in h5 hf
        refine q_blk 4 [] (c' := q_kc (t, r, m, z, N, ext, rx, L) I E 23 [some (.ref 458), some (.int v1), some (.int v2)] [.int (-1 : Int32), .int v2, .int v1, .ref 458] [] []) ok_X1_untieFromGone rfl q_cn ?_
        obtain ⟨r6, hr6, hf⟩ := q_bd hf
        refine q_kV (M2 := m_X1_setLead) (As := [.int v1, .int v2, .int (-1 : Int32)]) (b := 458) (v2 := none) ok_X1_untieFromGone ok_X1_setLead cv_X1_setLead (ct_X1_setLead_458 (d := 2) (Nat.le_refl _) hr6) rfl rfl (Or.inl rfl) rfl rfl rfl rfl (Nat.le_trans (Nat.le_of_ble_eq_true rfl) hd) hk hn (Nat.le_of_ble_eq_true rfl) (fun x hx => absurd hx List.not_mem_nil) (q_nmL0 _) (q_nmS0 _) rfl (pos' := 24) (st' := []) (lI' := [(464, r6)]) (lE' := []) rfl rfl rfl rfl ?_
        refine q_blk 2 [] (c' := q_kc (t, r, m, z, N, ext, rx, L) I E 7 [some (.ref 458), some (.int v1), some (.int (v2 + 1))] [] [(464, r6)] []) ok_X1_untieFromGone rfl q_cn ?_
        exact ih (I := q_ws I [(464, r6)]) (E := q_ws E []) hf (q_Jmrg rfl rfl hK0)
set_option maxHeartbeats 4000000 in
theorem lp_X1_untieFromGone_L2_458 {g : q_G} {d mc ms : Nat} {h0 : q_H} {Q : (Option Value ⊕ String) → q_H → Prop} {k n : Nat} {t : Nat} {r : Nat} {m : Nat} {z : Nat} {N : Nat} {ext : Nat → q_Sh} {rx : Nat → Nat → Option Nat} {L : Nat → Nat → Int64} (hd : 3 ≤ d) (hk : k ≤ mc) (hn : n ≤ ms)  : ∀ (fu : Nat) {I : Nat → Nat → Int32} {E : Nat → Nat → Option Nat} {v1 : Int32} {r0 : (Nat → Int32)} (hf : f_X1_untieFromGone_L2 (I 459) (I 463) fu (I 464) v1 = some r0) (hK0 : q_J g m_X1_untieFromGone d mc ms h0 [] Q k n (q_kc (t, r, m, z, N, ext, rx, L) I E 28 [none, none, none] [] [(464, r0)] [])), q_J g m_X1_untieFromGone d mc ms h0 [] Q k n (2, [some (.ref 458), some (.int v1), none], [], q_hp (t, r, m, z, N, ext, rx, L) I E) := by
  intro fu
  induction fu with
  | zero =>
    intro I E v1 r0 hf hK0
    rw [f_X1_untieFromGone_L2] at hf
    cases hf
  | succ fu ih =>
    intro I E v1 r0 hf hK0
    rw [f_X1_untieFromGone_L2] at hf
    change q_J g m_X1_untieFromGone d mc ms h0 [] Q k n (q_kc (t, r, m, z, N, ext, rx, L) I E 2 [some (.ref 458), some (.int v1), none] [] [] [])
    refine q_blf 2 [] (a := q_kc (t, r, m, z, N, ext, rx, L) I E 28 [some (.ref 458), some (.int v1), none] [] [] []) (b := q_kc (t, r, m, z, N, ext, rx, L) I E 5 [some (.ref 458), some (.int v1), none] [] [] []) (P := (128 : Int32) ≤ v1) ok_X1_untieFromGone rfl q_cn (fun h7 => ?_) (fun h7 => ?_)
    · have hf := q_ip h7 hf
      refine q_less (ls' := [none, none, none]) (q_sb1 (q_sb1 (q_sb1 q_sb0))) ?_
      cases hf
      exact q_Jpad [464] [] rfl rfl hK0
    · have hf := q_in h7 hf
      refine q_blk 2 [] (c' := q_kc (t, r, m, z, N, ext, rx, L) I E 7 [some (.ref 458), some (.int v1), some (.int (0 : Int32))] [] [] []) ok_X1_untieFromGone rfl q_cn ?_
      obtain ⟨r8, hr8, hf⟩ := q_bd hf
      refine lp_X1_untieFromGone_L7_458 (I := q_ws I []) (E := q_ws E []) hd hk hn 4096 hr8 ?_
      refine q_Jmrg (lI' := [(464, r8)]) (lE' := []) rfl rfl ?_
      refine q_blk 2 [] (c' := q_kc (t, r, m, z, N, ext, rx, L) I E 2 [some (.ref 458), some (.int (v1 + 1)), none] [] [(464, r8)] []) ok_X1_untieFromGone rfl q_cn ?_
      exact ih (I := q_ws I [(464, r8)]) (E := q_ws E []) hf (q_Jmrg rfl rfl hK0)
set_option maxHeartbeats 4000000 in
theorem ct_X1_untieFromGone_458 {g : q_G} {t : Nat} {r : Nat} {m : Nat} {z : Nat} {N : Nat} {ext : Nat → q_Sh} {rx : Nat → Nat → Option Nat} {L : Nat → Nat → Int64} {d : Nat} (hd : 3 ≤ d)  {I : Nat → Nat → Int32} {E : Nat → Nat → Option Nat} {r0 : (Nat → Int32)} (hf : f_X1_untieFromGone (I 459) (I 463) (I 464) = some r0) : q_Ct g m_X1_untieFromGone d 0 0 [] [.ref 458] (q_hp (t, r, m, z, N, ext, rx, L) I E) (fun o h' => o = .inl none ∧ h' = q_hp (t, r, m, z, N, ext, rx, L) (q_ws I [(464, r0)]) (q_ws E [])) := by
  rw [f_X1_untieFromGone] at hf
  refine q_Ct_of ok_X1_untieFromGone (Nat.le_of_ble_eq_true rfl) ?_ _ rfl rfl
  change q_J g m_X1_untieFromGone d 0 0 _ [] _ 0 0 (q_kc (t, r, m, z, N, ext, rx, L) I E 0 [some (.ref 458), none, none] [] [] [])
  refine q_blk 2 [] (c' := q_kc (t, r, m, z, N, ext, rx, L) I E 2 [some (.ref 458), some (.int (0 : Int32)), none] [] [] []) ok_X1_untieFromGone rfl q_cn ?_
  obtain ⟨r9, hr9, hf⟩ := q_bd hf
  refine lp_X1_untieFromGone_L2_458 (I := q_ws I []) (E := q_ws E []) hd (Nat.le_of_ble_eq_true rfl) (Nat.le_of_ble_eq_true rfl) 4096 hr9 ?_
  refine q_Jmrg (lI' := [(464, r9)]) (lE' := []) rfl rfl ?_
  cases hf
  exact q_krv ok_X1_untieFromGone rfl rfl (Nat.le_of_ble_eq_true rfl) (Nat.le_of_ble_eq_true rfl) ⟨rfl, q_hpe (q_fin [464] rfl) (q_fin [] rfl)⟩
set_option maxHeartbeats 4000000 in
theorem ct_X1_size_458 {g : q_G} {t : Nat} {r : Nat} {m : Nat} {z : Nat} {N : Nat} {ext : Nat → q_Sh} {rx : Nat → Nat → Option Nat} {L : Nat → Nat → Int64} {d : Nat} (hd : 1 ≤ d)  {I : Nat → Nat → Int32} {E : Nat → Nat → Option Nat} {x1 : Int32} {r0 : Int32} (hf : f_X1_size (I 461) x1 = some r0) : q_Ct g m_X1_size d 0 0 [] [.ref 458, .int x1] (q_hp (t, r, m, z, N, ext, rx, L) I E) (fun o h' => o = .inl (some (.int r0)) ∧ h' = q_hp (t, r, m, z, N, ext, rx, L) (q_ws I []) (q_ws E [])) := by
  rw [f_X1_size] at hf
  refine q_Ct_of ok_X1_size (Nat.le_of_ble_eq_true rfl) ?_ _ rfl rfl
  change q_J g m_X1_size d 0 0 _ [] _ 0 0 (q_kc (t, r, m, z, N, ext, rx, L) I E 0 [some (.ref 458), some (.int x1)] [] [] [])
  refine q_blf 1 [] (a := q_kc (t, r, m, z, N, ext, rx, L) I E 10 [some (.ref 458), some (.int x1)] [] [] []) (b := q_kc (t, r, m, z, N, ext, rx, L) I E 2 [some (.ref 458), some (.int x1)] [] [] []) (P := x1 < 0) ok_X1_size rfl q_cn (fun h1 => ?_) (fun h1 => ?_)
  · have hf := q_ip h1 hf
    refine q_blk 1 [] (c' := q_kc (t, r, m, z, N, ext, rx, L) I E 11 [some (.ref 458), some (.int x1)] [.int (0 : Int32)] [] []) ok_X1_size rfl q_cn ?_
    cases hf
    exact q_kri ok_X1_size rfl rfl rfl (Nat.le_of_ble_eq_true rfl) (Nat.le_of_ble_eq_true rfl) ⟨rfl, q_hpe (q_fin [] rfl) (q_fin [] rfl)⟩
  · have hf := q_in h1 hf
    refine q_blf 2 [] (a := q_kc (t, r, m, z, N, ext, rx, L) I E 10 [some (.ref 458), some (.int x1)] [] [] []) (b := q_kc (t, r, m, z, N, ext, rx, L) I E 5 [some (.ref 458), some (.int x1)] [] [] []) (P := (128 : Int32) ≤ x1) ok_X1_size rfl q_cn (fun h2 => ?_) (fun h2 => ?_)
    · have hf := q_ip h2 hf
      refine q_blk 1 [] (c' := q_kc (t, r, m, z, N, ext, rx, L) I E 11 [some (.ref 458), some (.int x1)] [.int (0 : Int32)] [] []) ok_X1_size rfl q_cn ?_
      cases hf
      exact q_kri ok_X1_size rfl rfl rfl (Nat.le_of_ble_eq_true rfl) (Nat.le_of_ble_eq_true rfl) ⟨rfl, q_hpe (q_fin [] rfl) (q_fin [] rfl)⟩
    · have hf := q_in h2 hf
      obtain ⟨j3, hj3, hf⟩ := q_bd hf
      refine q_blk 5 [j3] (c' := q_kc (t, r, m, z, N, ext, rx, L) I E 11 [some (.ref 458), some (.int x1)] [.int ((I 461) j3)] [] []) ok_X1_size rfl (q_cc hj3 q_cn) ?_
      cases hf
      exact q_kri ok_X1_size rfl rfl rfl (Nat.le_of_ble_eq_true rfl) (Nat.le_of_ble_eq_true rfl) ⟨rfl, q_hpe (q_fin [] rfl) (q_fin [] rfl)⟩
set_option maxHeartbeats 4000000 in
theorem ct_X1_age_458 {g : q_G} {t : Nat} {r : Nat} {m : Nat} {z : Nat} {N : Nat} {ext : Nat → q_Sh} {rx : Nat → Nat → Option Nat} {L : Nat → Nat → Int64} {d : Nat} (hd : 1 ≤ d)  {I : Nat → Nat → Int32} {E : Nat → Nat → Option Nat} {x1 : Int32} {r0 : Int32} (hf : f_X1_age (I 462) x1 = some r0) : q_Ct g m_X1_age d 0 0 [] [.ref 458, .int x1] (q_hp (t, r, m, z, N, ext, rx, L) I E) (fun o h' => o = .inl (some (.int r0)) ∧ h' = q_hp (t, r, m, z, N, ext, rx, L) (q_ws I []) (q_ws E [])) := by
  rw [f_X1_age] at hf
  refine q_Ct_of ok_X1_age (Nat.le_of_ble_eq_true rfl) ?_ _ rfl rfl
  change q_J g m_X1_age d 0 0 _ [] _ 0 0 (q_kc (t, r, m, z, N, ext, rx, L) I E 0 [some (.ref 458), some (.int x1)] [] [] [])
  refine q_blf 1 [] (a := q_kc (t, r, m, z, N, ext, rx, L) I E 10 [some (.ref 458), some (.int x1)] [] [] []) (b := q_kc (t, r, m, z, N, ext, rx, L) I E 2 [some (.ref 458), some (.int x1)] [] [] []) (P := x1 < 0) ok_X1_age rfl q_cn (fun h1 => ?_) (fun h1 => ?_)
  · have hf := q_ip h1 hf
    refine q_blk 1 [] (c' := q_kc (t, r, m, z, N, ext, rx, L) I E 11 [some (.ref 458), some (.int x1)] [.int (0 : Int32)] [] []) ok_X1_age rfl q_cn ?_
    cases hf
    exact q_kri ok_X1_age rfl rfl rfl (Nat.le_of_ble_eq_true rfl) (Nat.le_of_ble_eq_true rfl) ⟨rfl, q_hpe (q_fin [] rfl) (q_fin [] rfl)⟩
  · have hf := q_in h1 hf
    refine q_blf 2 [] (a := q_kc (t, r, m, z, N, ext, rx, L) I E 10 [some (.ref 458), some (.int x1)] [] [] []) (b := q_kc (t, r, m, z, N, ext, rx, L) I E 5 [some (.ref 458), some (.int x1)] [] [] []) (P := (128 : Int32) ≤ x1) ok_X1_age rfl q_cn (fun h2 => ?_) (fun h2 => ?_)
    · have hf := q_ip h2 hf
      refine q_blk 1 [] (c' := q_kc (t, r, m, z, N, ext, rx, L) I E 11 [some (.ref 458), some (.int x1)] [.int (0 : Int32)] [] []) ok_X1_age rfl q_cn ?_
      cases hf
      exact q_kri ok_X1_age rfl rfl rfl (Nat.le_of_ble_eq_true rfl) (Nat.le_of_ble_eq_true rfl) ⟨rfl, q_hpe (q_fin [] rfl) (q_fin [] rfl)⟩
    · have hf := q_in h2 hf
      obtain ⟨j3, hj3, hf⟩ := q_bd hf
      refine q_blk 5 [j3] (c' := q_kc (t, r, m, z, N, ext, rx, L) I E 11 [some (.ref 458), some (.int x1)] [.int ((I 462) j3)] [] []) ok_X1_age rfl (q_cc hj3 q_cn) ?_
      cases hf
      exact q_kri ok_X1_age rfl rfl rfl (Nat.le_of_ble_eq_true rfl) (Nat.le_of_ble_eq_true rfl) ⟨rfl, q_hpe (q_fin [] rfl) (q_fin [] rfl)⟩
set_option maxHeartbeats 4000000 in
theorem ct_X1_liesInHalf_458 {g : q_G} {t : Nat} {r : Nat} {m : Nat} {z : Nat} {N : Nat} {ext : Nat → q_Sh} {rx : Nat → Nat → Option Nat} {L : Nat → Nat → Int64} {d : Nat} (hd : 1 ≤ d)  {I : Nat → Nat → Int32} {E : Nat → Nat → Option Nat} {x1 : Int32} {r0 : Bool} (hf : f_X1_liesInHalf (I 459) x1 = some r0) : q_Ct g m_X1_liesInHalf d 0 0 [] [.ref 458, .int x1] (q_hp (t, r, m, z, N, ext, rx, L) I E) (fun o h' => o = .inl (some (.int (q_bz r0))) ∧ h' = q_hp (t, r, m, z, N, ext, rx, L) (q_ws I []) (q_ws E [])) := by
  rw [f_X1_liesInHalf] at hf
  refine q_Ct_of ok_X1_liesInHalf (Nat.le_of_ble_eq_true rfl) ?_ _ rfl rfl
  change q_J g m_X1_liesInHalf d 0 0 _ [] _ 0 0 (q_kc (t, r, m, z, N, ext, rx, L) I E 0 [some (.ref 458), some (.int x1)] [] [] [])
  refine q_blf 1 [] (a := q_kc (t, r, m, z, N, ext, rx, L) I E 13 [some (.ref 458), some (.int x1)] [] [] []) (b := q_kc (t, r, m, z, N, ext, rx, L) I E 2 [some (.ref 458), some (.int x1)] [] [] []) (P := x1 < 0) ok_X1_liesInHalf rfl q_cn (fun h1 => ?_) (fun h1 => ?_)
  · have hf := q_ip h1 hf
    refine q_blk 1 [] (c' := q_kc (t, r, m, z, N, ext, rx, L) I E 14 [some (.ref 458), some (.int x1)] [.int (0 : Int32)] [] []) ok_X1_liesInHalf rfl q_cn ?_
    cases hf
    exact q_kri ok_X1_liesInHalf rfl rfl rfl (Nat.le_of_ble_eq_true rfl) (Nat.le_of_ble_eq_true rfl) ⟨rfl, q_hpe (q_fin [] rfl) (q_fin [] rfl)⟩
  · have hf := q_in h1 hf
    refine q_blf 2 [] (a := q_kc (t, r, m, z, N, ext, rx, L) I E 13 [some (.ref 458), some (.int x1)] [] [] []) (b := q_kc (t, r, m, z, N, ext, rx, L) I E 5 [some (.ref 458), some (.int x1)] [] [] []) (P := (128 : Int32) ≤ x1) ok_X1_liesInHalf rfl q_cn (fun h2 => ?_) (fun h2 => ?_)
    · have hf := q_ip h2 hf
      refine q_blk 1 [] (c' := q_kc (t, r, m, z, N, ext, rx, L) I E 14 [some (.ref 458), some (.int x1)] [.int (0 : Int32)] [] []) ok_X1_liesInHalf rfl q_cn ?_
      cases hf
      exact q_kri ok_X1_liesInHalf rfl rfl rfl (Nat.le_of_ble_eq_true rfl) (Nat.le_of_ble_eq_true rfl) ⟨rfl, q_hpe (q_fin [] rfl) (q_fin [] rfl)⟩
    · have hf := q_in h2 hf
      obtain ⟨j3, hj3, hf⟩ := q_bd hf
      refine q_blf 5 [j3] (a := q_kc (t, r, m, z, N, ext, rx, L) I E 13 [some (.ref 458), some (.int x1)] [] [] []) (b := q_kc (t, r, m, z, N, ext, rx, L) I E 11 [some (.ref 458), some (.int x1)] [] [] []) (P := ¬ ((I 459) j3) = (1 : Int32)) ok_X1_liesInHalf rfl (q_cc hj3 q_cn) (fun h4 => ?_) (fun h4 => ?_)
      · have hf := q_ip h4 hf
        refine q_blk 1 [] (c' := q_kc (t, r, m, z, N, ext, rx, L) I E 14 [some (.ref 458), some (.int x1)] [.int (0 : Int32)] [] []) ok_X1_liesInHalf rfl q_cn ?_
        cases hf
        exact q_kri ok_X1_liesInHalf rfl rfl rfl (Nat.le_of_ble_eq_true rfl) (Nat.le_of_ble_eq_true rfl) ⟨rfl, q_hpe (q_fin [] rfl) (q_fin [] rfl)⟩
      · have hf := q_in h4 hf
        refine q_blk 2 [] (c' := q_kc (t, r, m, z, N, ext, rx, L) I E 14 [some (.ref 458), some (.int x1)] [.int (1 : Int32)] [] []) ok_X1_liesInHalf rfl q_cn ?_
        cases hf
        exact q_kri ok_X1_liesInHalf rfl rfl rfl (Nat.le_of_ble_eq_true rfl) (Nat.le_of_ble_eq_true rfl) ⟨rfl, q_hpe (q_fin [] rfl) (q_fin [] rfl)⟩
set_option maxHeartbeats 4000000 in
theorem ct_X1_liesInLoft_458 {g : q_G} {t : Nat} {r : Nat} {m : Nat} {z : Nat} {N : Nat} {ext : Nat → q_Sh} {rx : Nat → Nat → Option Nat} {L : Nat → Nat → Int64} {d : Nat} (hd : 1 ≤ d)  {I : Nat → Nat → Int32} {E : Nat → Nat → Option Nat} {x1 : Int32} {r0 : Bool} (hf : f_X1_liesInLoft (I 459) x1 = some r0) : q_Ct g m_X1_liesInLoft d 0 0 [] [.ref 458, .int x1] (q_hp (t, r, m, z, N, ext, rx, L) I E) (fun o h' => o = .inl (some (.int (q_bz r0))) ∧ h' = q_hp (t, r, m, z, N, ext, rx, L) (q_ws I []) (q_ws E [])) := by
  rw [f_X1_liesInLoft] at hf
  refine q_Ct_of ok_X1_liesInLoft (Nat.le_of_ble_eq_true rfl) ?_ _ rfl rfl
  change q_J g m_X1_liesInLoft d 0 0 _ [] _ 0 0 (q_kc (t, r, m, z, N, ext, rx, L) I E 0 [some (.ref 458), some (.int x1)] [] [] [])
  refine q_blf 1 [] (a := q_kc (t, r, m, z, N, ext, rx, L) I E 13 [some (.ref 458), some (.int x1)] [] [] []) (b := q_kc (t, r, m, z, N, ext, rx, L) I E 2 [some (.ref 458), some (.int x1)] [] [] []) (P := x1 < 0) ok_X1_liesInLoft rfl q_cn (fun h1 => ?_) (fun h1 => ?_)
  · have hf := q_ip h1 hf
    refine q_blk 1 [] (c' := q_kc (t, r, m, z, N, ext, rx, L) I E 14 [some (.ref 458), some (.int x1)] [.int (0 : Int32)] [] []) ok_X1_liesInLoft rfl q_cn ?_
    cases hf
    exact q_kri ok_X1_liesInLoft rfl rfl rfl (Nat.le_of_ble_eq_true rfl) (Nat.le_of_ble_eq_true rfl) ⟨rfl, q_hpe (q_fin [] rfl) (q_fin [] rfl)⟩
  · have hf := q_in h1 hf
    refine q_blf 2 [] (a := q_kc (t, r, m, z, N, ext, rx, L) I E 13 [some (.ref 458), some (.int x1)] [] [] []) (b := q_kc (t, r, m, z, N, ext, rx, L) I E 5 [some (.ref 458), some (.int x1)] [] [] []) (P := (128 : Int32) ≤ x1) ok_X1_liesInLoft rfl q_cn (fun h2 => ?_) (fun h2 => ?_)
    · have hf := q_ip h2 hf
      refine q_blk 1 [] (c' := q_kc (t, r, m, z, N, ext, rx, L) I E 14 [some (.ref 458), some (.int x1)] [.int (0 : Int32)] [] []) ok_X1_liesInLoft rfl q_cn ?_
      cases hf
      exact q_kri ok_X1_liesInLoft rfl rfl rfl (Nat.le_of_ble_eq_true rfl) (Nat.le_of_ble_eq_true rfl) ⟨rfl, q_hpe (q_fin [] rfl) (q_fin [] rfl)⟩
    · have hf := q_in h2 hf
      obtain ⟨j3, hj3, hf⟩ := q_bd hf
      refine q_blf 5 [j3] (a := q_kc (t, r, m, z, N, ext, rx, L) I E 13 [some (.ref 458), some (.int x1)] [] [] []) (b := q_kc (t, r, m, z, N, ext, rx, L) I E 11 [some (.ref 458), some (.int x1)] [] [] []) (P := ¬ ((I 459) j3) = (2 : Int32)) ok_X1_liesInLoft rfl (q_cc hj3 q_cn) (fun h4 => ?_) (fun h4 => ?_)
      · have hf := q_ip h4 hf
        refine q_blk 1 [] (c' := q_kc (t, r, m, z, N, ext, rx, L) I E 14 [some (.ref 458), some (.int x1)] [.int (0 : Int32)] [] []) ok_X1_liesInLoft rfl q_cn ?_
        cases hf
        exact q_kri ok_X1_liesInLoft rfl rfl rfl (Nat.le_of_ble_eq_true rfl) (Nat.le_of_ble_eq_true rfl) ⟨rfl, q_hpe (q_fin [] rfl) (q_fin [] rfl)⟩
      · have hf := q_in h4 hf
        refine q_blk 2 [] (c' := q_kc (t, r, m, z, N, ext, rx, L) I E 14 [some (.ref 458), some (.int x1)] [.int (1 : Int32)] [] []) ok_X1_liesInLoft rfl q_cn ?_
        cases hf
        exact q_kri ok_X1_liesInLoft rfl rfl rfl (Nat.le_of_ble_eq_true rfl) (Nat.le_of_ble_eq_true rfl) ⟨rfl, q_hpe (q_fin [] rfl) (q_fin [] rfl)⟩
set_option maxHeartbeats 4000000 in
theorem ct_X1_remove_458 {g : q_G} {t : Nat} {r : Nat} {m : Nat} {z : Nat} {N : Nat} {ext : Nat → q_Sh} {rx : Nat → Nat → Option Nat} {L : Nat → Nat → Int64} {d : Nat} (hd : 1 ≤ d)  {I : Nat → Nat → Int32} {E : Nat → Nat → Option Nat} {x1 : Int32} {r0 : (Nat → Int32)} (hf : f_X1_remove (I 459) x1 = some r0) : q_Ct g m_X1_remove d 0 0 [] [.ref 458, .int x1] (q_hp (t, r, m, z, N, ext, rx, L) I E) (fun o h' => o = .inl none ∧ h' = q_hp (t, r, m, z, N, ext, rx, L) (q_ws I [(459, r0)]) (q_ws E [])) := by
  rw [f_X1_remove] at hf
  refine q_Ct_of ok_X1_remove (Nat.le_of_ble_eq_true rfl) ?_ _ rfl rfl
  change q_J g m_X1_remove d 0 0 _ [] _ 0 0 (q_kc (t, r, m, z, N, ext, rx, L) I E 0 [some (.ref 458), some (.int x1)] [] [] [])
  refine q_blf 1 [] (a := q_kc (t, r, m, z, N, ext, rx, L) I E 10 [some (.ref 458), some (.int x1)] [] [] []) (b := q_kc (t, r, m, z, N, ext, rx, L) I E 2 [some (.ref 458), some (.int x1)] [] [] []) (P := x1 < 0) ok_X1_remove rfl q_cn (fun h1 => ?_) (fun h1 => ?_)
  · have hf := q_ip h1 hf
    cases hf
    exact q_krv ok_X1_remove rfl rfl (Nat.le_of_ble_eq_true rfl) (Nat.le_of_ble_eq_true rfl) ⟨rfl, q_hpe (q_fin [459] rfl) (q_fin [] rfl)⟩
  · have hf := q_in h1 hf
    refine q_blf 2 [] (a := q_kc (t, r, m, z, N, ext, rx, L) I E 10 [some (.ref 458), some (.int x1)] [] [] []) (b := q_kc (t, r, m, z, N, ext, rx, L) I E 5 [some (.ref 458), some (.int x1)] [] [] []) (P := (128 : Int32) ≤ x1) ok_X1_remove rfl q_cn (fun h2 => ?_) (fun h2 => ?_)
    · have hf := q_ip h2 hf
      cases hf
      exact q_krv ok_X1_remove rfl rfl (Nat.le_of_ble_eq_true rfl) (Nat.le_of_ble_eq_true rfl) ⟨rfl, q_hpe (q_fin [459] rfl) (q_fin [] rfl)⟩
    · have hf := q_in h2 hf
      obtain ⟨j3, hj3, hf⟩ := q_bd hf
      refine q_blk 5 [j3] (c' := q_kc (t, r, m, z, N, ext, rx, L) I E 10 [some (.ref 458), some (.int x1)] [] [(459, (q_up (I 459) j3 (0 : Int32)))] []) ok_X1_remove rfl (q_cc hj3 q_cn) ?_
      cases hf
      exact q_krv ok_X1_remove rfl rfl (Nat.le_of_ble_eq_true rfl) (Nat.le_of_ble_eq_true rfl) ⟨rfl, q_hpe (q_fin [459] rfl) (q_fin [] rfl)⟩
set_option maxHeartbeats 4000000 in
theorem ct_X1_copyTo_458 {g : q_G} {t : Nat} {r : Nat} {m : Nat} {z : Nat} {N : Nat} {ext : Nat → q_Sh} {rx : Nat → Nat → Option Nat} {L : Nat → Nat → Int64} {d : Nat} (hd : 1 ≤ d)  {I : Nat → Nat → Int32} {E : Nat → Nat → Option Nat} {x1 : Int32} {x2 : Int32} {r0 : (Nat → Int32) × (Nat → Int32)} (hf : f_X1_copyTo (I 460) (I 462) x1 x2 = some r0) : q_Ct g m_X1_copyTo d 0 0 [] [.ref 458, .int x1, .int x2] (q_hp (t, r, m, z, N, ext, rx, L) I E) (fun o h' => o = .inl none ∧ h' = q_hp (t, r, m, z, N, ext, rx, L) (q_ws I [(460, r0.1), (462, r0.2)]) (q_ws E [])) := by
  rw [f_X1_copyTo] at hf
  refine q_Ct_of ok_X1_copyTo (Nat.le_of_ble_eq_true rfl) ?_ _ rfl rfl
  change q_J g m_X1_copyTo d 0 0 _ [] _ 0 0 (q_kc (t, r, m, z, N, ext, rx, L) I E 0 [some (.ref 458), some (.int x1), some (.int x2)] [] [] [])
  refine q_blf 1 [] (a := q_kc (t, r, m, z, N, ext, rx, L) I E 18 [some (.ref 458), some (.int x1), some (.int x2)] [] [] []) (b := q_kc (t, r, m, z, N, ext, rx, L) I E 2 [some (.ref 458), some (.int x1), some (.int x2)] [] [] []) (P := x1 < 0) ok_X1_copyTo rfl q_cn (fun h1 => ?_) (fun h1 => ?_)
  · have hf := q_ip h1 hf
    cases hf
    exact q_krv ok_X1_copyTo rfl rfl (Nat.le_of_ble_eq_true rfl) (Nat.le_of_ble_eq_true rfl) ⟨rfl, q_hpe (q_fin [460, 462] rfl) (q_fin [] rfl)⟩
  · have hf := q_in h1 hf
    refine q_blf 2 [] (a := q_kc (t, r, m, z, N, ext, rx, L) I E 18 [some (.ref 458), some (.int x1), some (.int x2)] [] [] []) (b := q_kc (t, r, m, z, N, ext, rx, L) I E 5 [some (.ref 458), some (.int x1), some (.int x2)] [] [] []) (P := (128 : Int32) ≤ x1) ok_X1_copyTo rfl q_cn (fun h2 => ?_) (fun h2 => ?_)
    · have hf := q_ip h2 hf
      cases hf
      exact q_krv ok_X1_copyTo rfl rfl (Nat.le_of_ble_eq_true rfl) (Nat.le_of_ble_eq_true rfl) ⟨rfl, q_hpe (q_fin [460, 462] rfl) (q_fin [] rfl)⟩
    · have hf := q_in h2 hf
      obtain ⟨j3, hj3, hf⟩ := q_bd hf
      obtain ⟨j4, hj4, hf⟩ := q_bd hf
      obtain ⟨j5, hj5, hf⟩ := q_bd hf
      refine q_blk 13 [j3, j4, j5] (c' := q_kc (t, r, m, z, N, ext, rx, L) I E 18 [some (.ref 458), some (.int x1), some (.int x2)] [] [(460, (q_up (I 460) j3 x2)), (462, (q_up (I 462) j5 (((I 462) j4) + (1 : Int32))))] []) ok_X1_copyTo rfl (q_cc hj5 (q_cc hj4 (q_cc hj3 q_cn))) ?_
      cases hf
      exact q_krv ok_X1_copyTo rfl rfl (Nat.le_of_ble_eq_true rfl) (Nat.le_of_ble_eq_true rfl) ⟨rfl, q_hpe (q_fin [460, 462] rfl) (q_fin [] rfl)⟩
set_option maxHeartbeats 4000000 in
theorem ct_X1_promoteTo_458 {g : q_G} {t : Nat} {r : Nat} {m : Nat} {z : Nat} {N : Nat} {ext : Nat → q_Sh} {rx : Nat → Nat → Option Nat} {L : Nat → Nat → Int64} {d : Nat} (hd : 1 ≤ d)  {I : Nat → Nat → Int32} {E : Nat → Nat → Option Nat} {x1 : Int32} {x2 : Int32} {r0 : (Nat → Int32) × (Nat → Int32)} (hf : f_X1_promoteTo (I 459) (I 460) x1 x2 = some r0) : q_Ct g m_X1_promoteTo d 0 0 [] [.ref 458, .int x1, .int x2] (q_hp (t, r, m, z, N, ext, rx, L) I E) (fun o h' => o = .inl none ∧ h' = q_hp (t, r, m, z, N, ext, rx, L) (q_ws I [(459, r0.1), (460, r0.2)]) (q_ws E [])) := by
  rw [f_X1_promoteTo] at hf
  refine q_Ct_of ok_X1_promoteTo (Nat.le_of_ble_eq_true rfl) ?_ _ rfl rfl
  change q_J g m_X1_promoteTo d 0 0 _ [] _ 0 0 (q_kc (t, r, m, z, N, ext, rx, L) I E 0 [some (.ref 458), some (.int x1), some (.int x2)] [] [] [])
  refine q_blf 1 [] (a := q_kc (t, r, m, z, N, ext, rx, L) I E 15 [some (.ref 458), some (.int x1), some (.int x2)] [] [] []) (b := q_kc (t, r, m, z, N, ext, rx, L) I E 2 [some (.ref 458), some (.int x1), some (.int x2)] [] [] []) (P := x1 < 0) ok_X1_promoteTo rfl q_cn (fun h1 => ?_) (fun h1 => ?_)
  · have hf := q_ip h1 hf
    cases hf
    exact q_krv ok_X1_promoteTo rfl rfl (Nat.le_of_ble_eq_true rfl) (Nat.le_of_ble_eq_true rfl) ⟨rfl, q_hpe (q_fin [459, 460] rfl) (q_fin [] rfl)⟩
  · have hf := q_in h1 hf
    refine q_blf 2 [] (a := q_kc (t, r, m, z, N, ext, rx, L) I E 15 [some (.ref 458), some (.int x1), some (.int x2)] [] [] []) (b := q_kc (t, r, m, z, N, ext, rx, L) I E 5 [some (.ref 458), some (.int x1), some (.int x2)] [] [] []) (P := (128 : Int32) ≤ x1) ok_X1_promoteTo rfl q_cn (fun h2 => ?_) (fun h2 => ?_)
    · have hf := q_ip h2 hf
      cases hf
      exact q_krv ok_X1_promoteTo rfl rfl (Nat.le_of_ble_eq_true rfl) (Nat.le_of_ble_eq_true rfl) ⟨rfl, q_hpe (q_fin [459, 460] rfl) (q_fin [] rfl)⟩
    · have hf := q_in h2 hf
      obtain ⟨j3, hj3, hf⟩ := q_bd hf
      obtain ⟨j4, hj4, hf⟩ := q_bd hf
      refine q_blk 10 [j3, j4] (c' := q_kc (t, r, m, z, N, ext, rx, L) I E 15 [some (.ref 458), some (.int x1), some (.int x2)] [] [(459, (q_up (I 459) j4 (2 : Int32))), (460, (q_up (I 460) j3 x2))] []) ok_X1_promoteTo rfl (q_cc hj4 (q_cc hj3 q_cn)) ?_
      cases hf
      exact q_krv ok_X1_promoteTo rfl rfl (Nat.le_of_ble_eq_true rfl) (Nat.le_of_ble_eq_true rfl) ⟨rfl, q_hpe (q_fin [459, 460] rfl) (q_fin [] rfl)⟩
set_option maxHeartbeats 4000000 in
theorem ct_X1_place_474 {g : q_G} {t : Nat} {r : Nat} {m : Nat} {z : Nat} {N : Nat} {ext : Nat → q_Sh} {rx : Nat → Nat → Option Nat} {L : Nat → Nat → Int64} {d : Nat} (hd : 1 ≤ d)  {I : Nat → Nat → Int32} {E : Nat → Nat → Option Nat} {x1 : Int32} {r0 : Int32} (hf : f_X1_place (I 476) x1 = some r0) : q_Ct g m_X1_place d 0 0 [] [.ref 474, .int x1] (q_hp (t, r, m, z, N, ext, rx, L) I E) (fun o h' => o = .inl (some (.int r0)) ∧ h' = q_hp (t, r, m, z, N, ext, rx, L) (q_ws I []) (q_ws E [])) := by
  rw [f_X1_place] at hf
  refine q_Ct_of ok_X1_place (Nat.le_of_ble_eq_true rfl) ?_ _ rfl rfl
  change q_J g m_X1_place d 0 0 _ [] _ 0 0 (q_kc (t, r, m, z, N, ext, rx, L) I E 0 [some (.ref 474), some (.int x1)] [] [] [])
  refine q_blf 1 [] (a := q_kc (t, r, m, z, N, ext, rx, L) I E 10 [some (.ref 474), some (.int x1)] [] [] []) (b := q_kc (t, r, m, z, N, ext, rx, L) I E 2 [some (.ref 474), some (.int x1)] [] [] []) (P := x1 < 0) ok_X1_place rfl q_cn (fun h1 => ?_) (fun h1 => ?_)
  · have hf := q_ip h1 hf
    refine q_blk 1 [] (c' := q_kc (t, r, m, z, N, ext, rx, L) I E 11 [some (.ref 474), some (.int x1)] [.int (0 : Int32)] [] []) ok_X1_place rfl q_cn ?_
    cases hf
    exact q_kri ok_X1_place rfl rfl rfl (Nat.le_of_ble_eq_true rfl) (Nat.le_of_ble_eq_true rfl) ⟨rfl, q_hpe (q_fin [] rfl) (q_fin [] rfl)⟩
  · have hf := q_in h1 hf
    refine q_blf 2 [] (a := q_kc (t, r, m, z, N, ext, rx, L) I E 10 [some (.ref 474), some (.int x1)] [] [] []) (b := q_kc (t, r, m, z, N, ext, rx, L) I E 5 [some (.ref 474), some (.int x1)] [] [] []) (P := (128 : Int32) ≤ x1) ok_X1_place rfl q_cn (fun h2 => ?_) (fun h2 => ?_)
    · have hf := q_ip h2 hf
      refine q_blk 1 [] (c' := q_kc (t, r, m, z, N, ext, rx, L) I E 11 [some (.ref 474), some (.int x1)] [.int (0 : Int32)] [] []) ok_X1_place rfl q_cn ?_
      cases hf
      exact q_kri ok_X1_place rfl rfl rfl (Nat.le_of_ble_eq_true rfl) (Nat.le_of_ble_eq_true rfl) ⟨rfl, q_hpe (q_fin [] rfl) (q_fin [] rfl)⟩
    · have hf := q_in h2 hf
      obtain ⟨j3, hj3, hf⟩ := q_bd hf
      refine q_blk 5 [j3] (c' := q_kc (t, r, m, z, N, ext, rx, L) I E 11 [some (.ref 474), some (.int x1)] [.int ((I 476) j3)] [] []) ok_X1_place rfl (q_cc hj3 q_cn) ?_
      cases hf
      exact q_kri ok_X1_place rfl rfl rfl (Nat.le_of_ble_eq_true rfl) (Nat.le_of_ble_eq_true rfl) ⟨rfl, q_hpe (q_fin [] rfl) (q_fin [] rfl)⟩
set_option maxHeartbeats 4000000 in
theorem lp_X1_add_L2_474 {g : q_G} {d mc ms : Nat} {h0 : q_H} {Q : (Option Value ⊕ String) → q_H → Prop} {k n : Nat} {t : Nat} {r : Nat} {m : Nat} {z : Nat} {N : Nat} {ext : Nat → q_Sh} {rx : Nat → Nat → Option Nat} {L : Nat → Nat → Int64} (hd : 1 ≤ d) (hk : k ≤ mc) (hn : n ≤ ms)  {v1 : Int32} {v2 : Int32} {v3 : Int32} : ∀ (fu : Nat) {I : Nat → Nat → Int32} {E : Nat → Nat → Option Nat} {v4 : Int32} {r0 : Nat × Int32} (hf : f_X1_add_L2 (I 475) fu v4 = some r0) (hK0 : r0.1 = 0 → q_J g m_X1_add d mc ms h0 [] Q k n (q_kc (t, r, m, z, N, ext, rx, L) I E 55 [none, none, none, none, none, none] [] [] [])) (hK1 : r0.1 = 1 → q_J g m_X1_add d mc ms h0 [] Q k n (q_kc (t, r, m, z, N, ext, rx, L) I E 10 [some (.ref 474), some (.int v1), some (.int v2), some (.int v3), some (.int r0.2), none] [] [] [])), q_J g m_X1_add d mc ms h0 [] Q k n (2, [some (.ref 474), some (.int v1), some (.int v2), some (.int v3), some (.int v4), none], [], q_hp (t, r, m, z, N, ext, rx, L) I E) := by
  intro fu
  induction fu with
  | zero =>
    intro I E v4 r0 hf hK0 hK1
    rw [f_X1_add_L2] at hf
    cases hf
  | succ fu ih =>
    intro I E v4 r0 hf hK0 hK1
    rw [f_X1_add_L2] at hf
    change q_J g m_X1_add d mc ms h0 [] Q k n (q_kc (t, r, m, z, N, ext, rx, L) I E 2 [some (.ref 474), some (.int v1), some (.int v2), some (.int v3), some (.int v4), none] [] [] [])
    refine q_blf 2 [] (a := q_kc (t, r, m, z, N, ext, rx, L) I E 55 [some (.ref 474), some (.int v1), some (.int v2), some (.int v3), some (.int v4), none] [] [] []) (b := q_kc (t, r, m, z, N, ext, rx, L) I E 5 [some (.ref 474), some (.int v1), some (.int v2), some (.int v3), some (.int v4), none] [] [] []) (P := (128 : Int32) ≤ v4) ok_X1_add rfl q_cn (fun h1 => ?_) (fun h1 => ?_)
    · have hf := q_ip h1 hf
      refine q_less (ls' := [none, none, none, none, none, none]) (q_sb1 (q_sb1 (q_sb1 (q_sb1 (q_sb1 (q_sb1 q_sb0)))))) ?_
      cases hf
      exact q_Jpad [] [] rfl rfl (hK0 rfl)
    · have hf := q_in h1 hf
      obtain ⟨j2, hj2, hf⟩ := q_bd hf
      refine q_blf 4 [j2] (a := q_kc (t, r, m, z, N, ext, rx, L) I E 53 [some (.ref 474), some (.int v1), some (.int v2), some (.int v3), some (.int v4), none] [] [] []) (b := q_kc (t, r, m, z, N, ext, rx, L) I E 10 [some (.ref 474), some (.int v1), some (.int v2), some (.int v3), some (.int v4), none] [] [] []) (P := ¬ ((I 475) j2) = 0) ok_X1_add rfl (q_cc hj2 q_cn) (fun h3 => ?_) (fun h3 => ?_)
      · have hf := q_ip h3 hf
        refine q_blk 2 [] (c' := q_kc (t, r, m, z, N, ext, rx, L) I E 2 [some (.ref 474), some (.int v1), some (.int v2), some (.int v3), some (.int (v4 + 1)), none] [] [] []) ok_X1_add rfl q_cn ?_
        exact ih (I := q_ws I []) (E := q_ws E []) hf (fun hz => q_Jmrg rfl rfl (hK0 hz)) (fun hz => q_Jmrg rfl rfl (hK1 hz))
      · have hf := q_in h3 hf
        cases hf
        exact q_Jpad [] [] rfl rfl (hK1 rfl)
set_option maxHeartbeats 4000000 in
theorem lp_X1_add_L37_474 {g : q_G} {d mc ms : Nat} {h0 : q_H} {Q : (Option Value ⊕ String) → q_H → Prop} {k n : Nat} {t : Nat} {r : Nat} {m : Nat} {z : Nat} {N : Nat} {ext : Nat → q_Sh} {rx : Nat → Nat → Option Nat} {L : Nat → Nat → Int64} (hd : 1 ≤ d) (hk : k ≤ mc) (hn : n ≤ ms)  {v4 : Int32} : ∀ (fu : Nat) {I : Nat → Nat → Int32} {E : Nat → Nat → Option Nat} {v5 : Int32} {r0 : (Nat → Int32)} (hf : f_X1_add_L37 v4 fu (I 480) v5 = some r0) (hK0 : q_J g m_X1_add d mc ms h0 [] Q k n (q_kc (t, r, m, z, N, ext, rx, L) I E 51 [none, none, none, none, some (.int v4), none] [] [(480, r0)] [])), q_J g m_X1_add d mc ms h0 [] Q k n (37, [some (.ref 474), none, none, none, some (.int v4), some (.int v5)], [], q_hp (t, r, m, z, N, ext, rx, L) I E) := by
  intro fu
  induction fu with
  | zero =>
    intro I E v5 r0 hf hK0
    rw [f_X1_add_L37] at hf
    cases hf
  | succ fu ih =>
    intro I E v5 r0 hf hK0
    rw [f_X1_add_L37] at hf
    change q_J g m_X1_add d mc ms h0 [] Q k n (q_kc (t, r, m, z, N, ext, rx, L) I E 37 [some (.ref 474), none, none, none, some (.int v4), some (.int v5)] [] [] [])
    refine q_blf 2 [] (a := q_kc (t, r, m, z, N, ext, rx, L) I E 51 [some (.ref 474), none, none, none, some (.int v4), some (.int v5)] [] [] []) (b := q_kc (t, r, m, z, N, ext, rx, L) I E 40 [some (.ref 474), none, none, none, some (.int v4), some (.int v5)] [] [] []) (P := (3 : Int32) ≤ v5) ok_X1_add rfl q_cn (fun h4 => ?_) (fun h4 => ?_)
    · have hf := q_ip h4 hf
      refine q_less (ls' := [none, none, none, none, some (.int v4), none]) (q_sb1 (q_sb1 (q_sb1 (q_sb1 (q_sb2 (q_sb1 q_sb0)))))) ?_
      cases hf
      exact q_Jpad [480] [] rfl rfl hK0
    · have hf := q_in h4 hf
      obtain ⟨j5, hj5, hf⟩ := q_bd hf
      refine q_blk 11 [j5] (c' := q_kc (t, r, m, z, N, ext, rx, L) I E 37 [some (.ref 474), none, none, none, some (.int v4), some (.int (v5 + 1))] [] [(480, (q_up (I 480) j5 (-1 : Int32)))] []) ok_X1_add rfl (q_cc hj5 q_cn) ?_
      exact ih (I := q_ws I [(480, (q_up (I 480) j5 (-1 : Int32)))]) (E := q_ws E []) hf (q_Jmrg rfl rfl hK0)
set_option maxHeartbeats 4000000 in
theorem ct_X1_add_474 {g : q_G} {t : Nat} {r : Nat} {m : Nat} {z : Nat} {N : Nat} {ext : Nat → q_Sh} {rx : Nat → Nat → Option Nat} {L : Nat → Nat → Int64} {d : Nat} (hd : 1 ≤ d)  {I : Nat → Nat → Int32} {E : Nat → Nat → Option Nat} {x1 : Int32} {x2 : Int32} {x3 : Int32} {r0 : Int32 × (Nat → Int32) × (Nat → Int32) × (Nat → Int32) × (Nat → Int32) × (Nat → Int32) × (Nat → Int32)} (hf : f_X1_add (I 475) (I 476) (I 477) (I 478) (I 479) (I 480) x1 x2 x3 = some r0) : q_Ct g m_X1_add d 0 0 [] [.ref 474, .int x1, .int x2, .int x3] (q_hp (t, r, m, z, N, ext, rx, L) I E) (fun o h' => o = .inl (some (.int r0.1)) ∧ h' = q_hp (t, r, m, z, N, ext, rx, L) (q_ws I [(475, r0.2.1), (476, r0.2.2.1), (477, r0.2.2.2.1), (478, r0.2.2.2.2.1), (479, r0.2.2.2.2.2.1), (480, r0.2.2.2.2.2.2)]) (q_ws E [])) := by
  rw [f_X1_add] at hf
  refine q_Ct_of ok_X1_add (Nat.le_of_ble_eq_true rfl) ?_ _ rfl rfl
  change q_J g m_X1_add d 0 0 _ [] _ 0 0 (q_kc (t, r, m, z, N, ext, rx, L) I E 0 [some (.ref 474), some (.int x1), some (.int x2), some (.int x3), none, none] [] [] [])
  refine q_blk 2 [] (c' := q_kc (t, r, m, z, N, ext, rx, L) I E 2 [some (.ref 474), some (.int x1), some (.int x2), some (.int x3), some (.int (0 : Int32)), none] [] [] []) ok_X1_add rfl q_cn ?_
  obtain ⟨r6, hr6, hf⟩ := q_bd hf
  refine lp_X1_add_L2_474 (I := q_ws I []) (E := q_ws E []) hd (Nat.le_of_ble_eq_true rfl) (Nat.le_of_ble_eq_true rfl) 4096 hr6 ?_ ?_
  · intro hz0
    have hf := q_ip hz0 hf
    refine q_Jmrg (lI' := []) (lE' := []) rfl rfl ?_
    refine q_blk 1 [] (c' := q_kc (t, r, m, z, N, ext, rx, L) I E 56 [none, none, none, none, none, none] [.int (-1 : Int32)] [] []) ok_X1_add rfl q_cn ?_
    cases hf
    exact q_kri ok_X1_add rfl rfl rfl (Nat.le_of_ble_eq_true rfl) (Nat.le_of_ble_eq_true rfl) ⟨rfl, q_hpe (q_fin [475, 476, 477, 478, 479, 480] rfl) (q_fin [] rfl)⟩
  · intro hz1
    have hf := q_in (fun h9 => absurd (hz1.symm.trans h9) (by decide)) hf
    refine q_Jmrg (lI' := []) (lE' := []) rfl rfl ?_
    obtain ⟨j7, hj7, hf⟩ := q_bd hf
    obtain ⟨j8, hj8, hf⟩ := q_bd hf
    obtain ⟨j9, hj9, hf⟩ := q_bd hf
    obtain ⟨j10, hj10, hf⟩ := q_bd hf
    obtain ⟨j11, hj11, hf⟩ := q_bd hf
    refine q_blk 27 [j7, j8, j9, j10, j11] (c' := q_kc (t, r, m, z, N, ext, rx, L) I E 37 [some (.ref 474), some (.int x1), some (.int x2), some (.int x3), some (.int r6.2), some (.int (0 : Int32))] [] [(475, (q_up (I 475) j7 (1 : Int32))), (476, (q_up (I 476) j8 x1)), (477, (q_up (I 477) j9 x2)), (478, (q_up (I 478) j10 (0 : Int32))), (479, (q_up (I 479) j11 x3))] []) ok_X1_add rfl (q_cc hj11 (q_cc hj10 (q_cc hj9 (q_cc hj8 (q_cc hj7 q_cn))))) ?_
    refine q_less (ls' := [some (.ref 474), none, none, none, some (.int r6.2), some (.int (0 : Int32))]) (q_sb2 (q_sb1 (q_sb1 (q_sb1 (q_sb2 (q_sb2 q_sb0)))))) ?_
    obtain ⟨r12, hr12, hf⟩ := q_bd hf
    refine lp_X1_add_L37_474 (I := q_ws I [(475, (q_up (I 475) j7 (1 : Int32))), (476, (q_up (I 476) j8 x1)), (477, (q_up (I 477) j9 x2)), (478, (q_up (I 478) j10 (0 : Int32))), (479, (q_up (I 479) j11 x3))]) (E := q_ws E []) hd (Nat.le_of_ble_eq_true rfl) (Nat.le_of_ble_eq_true rfl) 4096 hr12 ?_
    refine q_Jmrg (lI' := [(475, (q_up (I 475) j7 (1 : Int32))), (476, (q_up (I 476) j8 x1)), (477, (q_up (I 477) j9 x2)), (478, (q_up (I 478) j10 (0 : Int32))), (479, (q_up (I 479) j11 x3)), (480, r12)]) (lE' := []) rfl rfl ?_
    refine q_blk 1 [] (c' := q_kc (t, r, m, z, N, ext, rx, L) I E 52 [none, none, none, none, some (.int r6.2), none] [.int r6.2] [(475, (q_up (I 475) j7 (1 : Int32))), (476, (q_up (I 476) j8 x1)), (477, (q_up (I 477) j9 x2)), (478, (q_up (I 478) j10 (0 : Int32))), (479, (q_up (I 479) j11 x3)), (480, r12)] []) ok_X1_add rfl q_cn ?_
    cases hf
    exact q_kri ok_X1_add rfl rfl rfl (Nat.le_of_ble_eq_true rfl) (Nat.le_of_ble_eq_true rfl) ⟨rfl, q_hpe (q_fin [475, 476, 477, 478, 479, 480] rfl) (q_fin [] rfl)⟩
set_option maxHeartbeats 4000000 in
theorem ct_X1_hasRope_474 {g : q_G} {t : Nat} {r : Nat} {m : Nat} {z : Nat} {N : Nat} {ext : Nat → q_Sh} {rx : Nat → Nat → Option Nat} {L : Nat → Nat → Int64} {d : Nat} (hd : 1 ≤ d)  {I : Nat → Nat → Int32} {E : Nat → Nat → Option Nat} {x1 : Int32} {x2 : Int32} {r0 : Bool} (hf : f_X1_hasRope (I 479) x1 x2 = some r0) : q_Ct g m_X1_hasRope d 0 0 [] [.ref 474, .int x1, .int x2] (q_hp (t, r, m, z, N, ext, rx, L) I E) (fun o h' => o = .inl (some (.int (q_bz r0))) ∧ h' = q_hp (t, r, m, z, N, ext, rx, L) (q_ws I []) (q_ws E [])) := by
  rw [f_X1_hasRope] at hf
  refine q_Ct_of ok_X1_hasRope (Nat.le_of_ble_eq_true rfl) ?_ _ rfl rfl
  change q_J g m_X1_hasRope d 0 0 _ [] _ 0 0 (q_kc (t, r, m, z, N, ext, rx, L) I E 0 [some (.ref 474), some (.int x1), some (.int x2)] [] [] [])
  refine q_blf 1 [] (a := q_kc (t, r, m, z, N, ext, rx, L) I E 18 [some (.ref 474), some (.int x1), some (.int x2)] [] [] []) (b := q_kc (t, r, m, z, N, ext, rx, L) I E 2 [some (.ref 474), some (.int x1), some (.int x2)] [] [] []) (P := x1 < 0) ok_X1_hasRope rfl q_cn (fun h1 => ?_) (fun h1 => ?_)
  · have hf := q_ip h1 hf
    refine q_blk 1 [] (c' := q_kc (t, r, m, z, N, ext, rx, L) I E 19 [some (.ref 474), some (.int x1), some (.int x2)] [.int (0 : Int32)] [] []) ok_X1_hasRope rfl q_cn ?_
    cases hf
    exact q_kri ok_X1_hasRope rfl rfl rfl (Nat.le_of_ble_eq_true rfl) (Nat.le_of_ble_eq_true rfl) ⟨rfl, q_hpe (q_fin [] rfl) (q_fin [] rfl)⟩
  · have hf := q_in h1 hf
    refine q_blf 2 [] (a := q_kc (t, r, m, z, N, ext, rx, L) I E 18 [some (.ref 474), some (.int x1), some (.int x2)] [] [] []) (b := q_kc (t, r, m, z, N, ext, rx, L) I E 5 [some (.ref 474), some (.int x1), some (.int x2)] [] [] []) (P := (128 : Int32) ≤ x1) ok_X1_hasRope rfl q_cn (fun h2 => ?_) (fun h2 => ?_)
    · have hf := q_ip h2 hf
      refine q_blk 1 [] (c' := q_kc (t, r, m, z, N, ext, rx, L) I E 19 [some (.ref 474), some (.int x1), some (.int x2)] [.int (0 : Int32)] [] []) ok_X1_hasRope rfl q_cn ?_
      cases hf
      exact q_kri ok_X1_hasRope rfl rfl rfl (Nat.le_of_ble_eq_true rfl) (Nat.le_of_ble_eq_true rfl) ⟨rfl, q_hpe (q_fin [] rfl) (q_fin [] rfl)⟩
    · have hf := q_in h2 hf
      refine q_blf 1 [] (a := q_kc (t, r, m, z, N, ext, rx, L) I E 18 [some (.ref 474), some (.int x1), some (.int x2)] [] [] []) (b := q_kc (t, r, m, z, N, ext, rx, L) I E 7 [some (.ref 474), some (.int x1), some (.int x2)] [] [] []) (P := x2 < 0) ok_X1_hasRope rfl q_cn (fun h3 => ?_) (fun h3 => ?_)
      · have hf := q_ip h3 hf
        refine q_blk 1 [] (c' := q_kc (t, r, m, z, N, ext, rx, L) I E 19 [some (.ref 474), some (.int x1), some (.int x2)] [.int (0 : Int32)] [] []) ok_X1_hasRope rfl q_cn ?_
        cases hf
        exact q_kri ok_X1_hasRope rfl rfl rfl (Nat.le_of_ble_eq_true rfl) (Nat.le_of_ble_eq_true rfl) ⟨rfl, q_hpe (q_fin [] rfl) (q_fin [] rfl)⟩
      · have hf := q_in h3 hf
        refine q_blf 2 [] (a := q_kc (t, r, m, z, N, ext, rx, L) I E 18 [some (.ref 474), some (.int x1), some (.int x2)] [] [] []) (b := q_kc (t, r, m, z, N, ext, rx, L) I E 10 [some (.ref 474), some (.int x1), some (.int x2)] [] [] []) (P := (3 : Int32) ≤ x2) ok_X1_hasRope rfl q_cn (fun h4 => ?_) (fun h4 => ?_)
        · have hf := q_ip h4 hf
          refine q_blk 1 [] (c' := q_kc (t, r, m, z, N, ext, rx, L) I E 19 [some (.ref 474), some (.int x1), some (.int x2)] [.int (0 : Int32)] [] []) ok_X1_hasRope rfl q_cn ?_
          cases hf
          exact q_kri ok_X1_hasRope rfl rfl rfl (Nat.le_of_ble_eq_true rfl) (Nat.le_of_ble_eq_true rfl) ⟨rfl, q_hpe (q_fin [] rfl) (q_fin [] rfl)⟩
        · have hf := q_in h4 hf
          obtain ⟨j5, hj5, hf⟩ := q_bd hf
          refine q_blf 5 [j5] (a := q_kc (t, r, m, z, N, ext, rx, L) I E 18 [some (.ref 474), some (.int x1), some (.int x2)] [] [] []) (b := q_kc (t, r, m, z, N, ext, rx, L) I E 16 [some (.ref 474), some (.int x1), some (.int x2)] [] [] []) (P := ((I 479) j5) ≤ x2) ok_X1_hasRope rfl (q_cc hj5 q_cn) (fun h6 => ?_) (fun h6 => ?_)
          · have hf := q_ip h6 hf
            refine q_blk 1 [] (c' := q_kc (t, r, m, z, N, ext, rx, L) I E 19 [some (.ref 474), some (.int x1), some (.int x2)] [.int (0 : Int32)] [] []) ok_X1_hasRope rfl q_cn ?_
            cases hf
            exact q_kri ok_X1_hasRope rfl rfl rfl (Nat.le_of_ble_eq_true rfl) (Nat.le_of_ble_eq_true rfl) ⟨rfl, q_hpe (q_fin [] rfl) (q_fin [] rfl)⟩
          · have hf := q_in h6 hf
            refine q_blk 2 [] (c' := q_kc (t, r, m, z, N, ext, rx, L) I E 19 [some (.ref 474), some (.int x1), some (.int x2)] [.int (1 : Int32)] [] []) ok_X1_hasRope rfl q_cn ?_
            cases hf
            exact q_kri ok_X1_hasRope rfl rfl rfl (Nat.le_of_ble_eq_true rfl) (Nat.le_of_ble_eq_true rfl) ⟨rfl, q_hpe (q_fin [] rfl) (q_fin [] rfl)⟩
set_option maxHeartbeats 4000000 in
theorem ct_X1_lead_474 {g : q_G} {t : Nat} {r : Nat} {m : Nat} {z : Nat} {N : Nat} {ext : Nat → q_Sh} {rx : Nat → Nat → Option Nat} {L : Nat → Nat → Int64} {d : Nat} (hd : 2 ≤ d)  {I : Nat → Nat → Int32} {E : Nat → Nat → Option Nat} {x1 : Int32} {x2 : Int32} {r0 : Int32} (hf : f_X1_lead (I 479) (I 480) x1 x2 = some r0) : q_Ct g m_X1_lead d 0 0 [] [.ref 474, .int x1, .int x2] (q_hp (t, r, m, z, N, ext, rx, L) I E) (fun o h' => o = .inl (some (.int r0)) ∧ h' = q_hp (t, r, m, z, N, ext, rx, L) (q_ws I []) (q_ws E [])) := by
  rw [f_X1_lead] at hf
  refine q_Ct_of ok_X1_lead (Nat.le_of_ble_eq_true rfl) ?_ _ rfl rfl
  change q_J g m_X1_lead d 0 0 _ [] _ 0 0 (q_kc (t, r, m, z, N, ext, rx, L) I E 0 [some (.ref 474), some (.int x1), some (.int x2)] [] [] [])
  refine q_blk 3 [] (c' := q_kc (t, r, m, z, N, ext, rx, L) I E 3 [some (.ref 474), some (.int x1), some (.int x2)] [.int x2, .int x1, .ref 474] [] []) ok_X1_lead rfl q_cn ?_
  obtain ⟨r1, hr1, hf⟩ := q_bd hf
  refine q_kV (M2 := m_X1_hasRope) (As := [.int x1, .int x2]) (b := 474) (v2 := some (.int (q_bz r1))) ok_X1_lead ok_X1_hasRope cv_X1_hasRope (ct_X1_hasRope_474 (d := 1) (Nat.le_refl _) hr1) rfl rfl (Or.inl rfl) rfl rfl rfl rfl (Nat.le_trans (Nat.le_of_ble_eq_true rfl) hd) (Nat.le_of_ble_eq_true rfl) (Nat.le_of_ble_eq_true rfl) (Nat.le_of_ble_eq_true rfl) (fun x hx => absurd hx List.not_mem_nil) (q_nmL0 _) (q_nmS0 _) rfl (pos' := 4) (st' := [.int (q_bz r1)]) (lI' := []) (lE' := []) rfl rfl rfl rfl ?_
  refine q_blf 0 [] (a := q_kc (t, r, m, z, N, ext, rx, L) I E 14 [some (.ref 474), some (.int x1), some (.int x2)] [] [] []) (b := q_kc (t, r, m, z, N, ext, rx, L) I E 5 [some (.ref 474), some (.int x1), some (.int x2)] [] [] []) (P := (q_bz r1) = 0) ok_X1_lead rfl q_cn (fun h2 => ?_) (fun h2 => ?_)
  · have hf := q_ip h2 hf
    refine q_blk 1 [] (c' := q_kc (t, r, m, z, N, ext, rx, L) I E 15 [some (.ref 474), some (.int x1), some (.int x2)] [.int (-1 : Int32)] [] []) ok_X1_lead rfl q_cn ?_
    cases hf
    exact q_kri ok_X1_lead rfl rfl rfl (Nat.le_of_ble_eq_true rfl) (Nat.le_of_ble_eq_true rfl) ⟨rfl, q_hpe (q_fin [] rfl) (q_fin [] rfl)⟩
  · have hf := q_in h2 hf
    obtain ⟨j3, hj3, hf⟩ := q_bd hf
    refine q_blk 9 [j3] (c' := q_kc (t, r, m, z, N, ext, rx, L) I E 15 [some (.ref 474), some (.int x1), some (.int x2)] [.int ((I 480) j3)] [] []) ok_X1_lead rfl (q_cc hj3 q_cn) ?_
    cases hf
    exact q_kri ok_X1_lead rfl rfl rfl (Nat.le_of_ble_eq_true rfl) (Nat.le_of_ble_eq_true rfl) ⟨rfl, q_hpe (q_fin [] rfl) (q_fin [] rfl)⟩
set_option maxHeartbeats 4000000 in
theorem ct_X1_ropes_474 {g : q_G} {t : Nat} {r : Nat} {m : Nat} {z : Nat} {N : Nat} {ext : Nat → q_Sh} {rx : Nat → Nat → Option Nat} {L : Nat → Nat → Int64} {d : Nat} (hd : 1 ≤ d)  {I : Nat → Nat → Int32} {E : Nat → Nat → Option Nat} {x1 : Int32} {r0 : Int32} (hf : f_X1_ropes (I 479) x1 = some r0) : q_Ct g m_X1_ropes d 0 0 [] [.ref 474, .int x1] (q_hp (t, r, m, z, N, ext, rx, L) I E) (fun o h' => o = .inl (some (.int r0)) ∧ h' = q_hp (t, r, m, z, N, ext, rx, L) (q_ws I []) (q_ws E [])) := by
  rw [f_X1_ropes] at hf
  refine q_Ct_of ok_X1_ropes (Nat.le_of_ble_eq_true rfl) ?_ _ rfl rfl
  change q_J g m_X1_ropes d 0 0 _ [] _ 0 0 (q_kc (t, r, m, z, N, ext, rx, L) I E 0 [some (.ref 474), some (.int x1)] [] [] [])
  refine q_blf 1 [] (a := q_kc (t, r, m, z, N, ext, rx, L) I E 10 [some (.ref 474), some (.int x1)] [] [] []) (b := q_kc (t, r, m, z, N, ext, rx, L) I E 2 [some (.ref 474), some (.int x1)] [] [] []) (P := x1 < 0) ok_X1_ropes rfl q_cn (fun h1 => ?_) (fun h1 => ?_)
  · have hf := q_ip h1 hf
    refine q_blk 1 [] (c' := q_kc (t, r, m, z, N, ext, rx, L) I E 11 [some (.ref 474), some (.int x1)] [.int (0 : Int32)] [] []) ok_X1_ropes rfl q_cn ?_
    cases hf
    exact q_kri ok_X1_ropes rfl rfl rfl (Nat.le_of_ble_eq_true rfl) (Nat.le_of_ble_eq_true rfl) ⟨rfl, q_hpe (q_fin [] rfl) (q_fin [] rfl)⟩
  · have hf := q_in h1 hf
    refine q_blf 2 [] (a := q_kc (t, r, m, z, N, ext, rx, L) I E 10 [some (.ref 474), some (.int x1)] [] [] []) (b := q_kc (t, r, m, z, N, ext, rx, L) I E 5 [some (.ref 474), some (.int x1)] [] [] []) (P := (128 : Int32) ≤ x1) ok_X1_ropes rfl q_cn (fun h2 => ?_) (fun h2 => ?_)
    · have hf := q_ip h2 hf
      refine q_blk 1 [] (c' := q_kc (t, r, m, z, N, ext, rx, L) I E 11 [some (.ref 474), some (.int x1)] [.int (0 : Int32)] [] []) ok_X1_ropes rfl q_cn ?_
      cases hf
      exact q_kri ok_X1_ropes rfl rfl rfl (Nat.le_of_ble_eq_true rfl) (Nat.le_of_ble_eq_true rfl) ⟨rfl, q_hpe (q_fin [] rfl) (q_fin [] rfl)⟩
    · have hf := q_in h2 hf
      obtain ⟨j3, hj3, hf⟩ := q_bd hf
      refine q_blk 5 [j3] (c' := q_kc (t, r, m, z, N, ext, rx, L) I E 11 [some (.ref 474), some (.int x1)] [.int ((I 479) j3)] [] []) ok_X1_ropes rfl (q_cc hj3 q_cn) ?_
      cases hf
      exact q_kri ok_X1_ropes rfl rfl rfl (Nat.le_of_ble_eq_true rfl) (Nat.le_of_ble_eq_true rfl) ⟨rfl, q_hpe (q_fin [] rfl) (q_fin [] rfl)⟩
set_option maxHeartbeats 4000000 in
theorem lp_X1_leadCount_L4_474 {g : q_G} {d mc ms : Nat} {h0 : q_H} {Q : (Option Value ⊕ String) → q_H → Prop} {k n : Nat} {t : Nat} {r : Nat} {m : Nat} {z : Nat} {N : Nat} {ext : Nat → q_Sh} {rx : Nat → Nat → Option Nat} {L : Nat → Nat → Int64} (hd : 3 ≤ d) (hk : k ≤ mc) (hn : n ≤ ms)  {v1 : Int32} : ∀ (fu : Nat) {I : Nat → Nat → Int32} {E : Nat → Nat → Option Nat} {v2 : Int32} {v3 : Int32} {r0 : Int32} (hf : f_X1_leadCount_L4 (I 479) (I 480) v1 fu v2 v3 = some r0) (hK0 : q_J g m_X1_leadCount d mc ms h0 [] Q k n (q_kc (t, r, m, z, N, ext, rx, L) I E 18 [none, none, some (.int r0), none] [] [] [])), q_J g m_X1_leadCount d mc ms h0 [] Q k n (4, [some (.ref 474), some (.int v1), some (.int v2), some (.int v3)], [], q_hp (t, r, m, z, N, ext, rx, L) I E) := by
  intro fu
  induction fu with
  | zero =>
    intro I E v2 v3 r0 hf hK0
    rw [f_X1_leadCount_L4] at hf
    cases hf
  | succ fu ih =>
    intro I E v2 v3 r0 hf hK0
    rw [f_X1_leadCount_L4] at hf
    change q_J g m_X1_leadCount d mc ms h0 [] Q k n (q_kc (t, r, m, z, N, ext, rx, L) I E 4 [some (.ref 474), some (.int v1), some (.int v2), some (.int v3)] [] [] [])
    refine q_blk 3 [] (c' := q_kc (t, r, m, z, N, ext, rx, L) I E 7 [some (.ref 474), some (.int v1), some (.int v2), some (.int v3)] [.int v1, .ref 474, .int v3] [] []) ok_X1_leadCount rfl q_cn ?_
    obtain ⟨r1, hr1, hf⟩ := q_bd hf
    refine q_kV (M2 := m_X1_ropes) (As := [.int v1]) (b := 474) (v2 := some (.int r1)) ok_X1_leadCount ok_X1_ropes cv_X1_ropes (ct_X1_ropes_474 (d := 1) (Nat.le_refl _) hr1) rfl rfl (Or.inl rfl) rfl rfl rfl rfl (Nat.le_trans (Nat.le_of_ble_eq_true rfl) hd) hk hn (Nat.le_of_ble_eq_true rfl) (fun x hx => absurd hx List.not_mem_nil) (q_nmL0 _) (q_nmS0 _) rfl (pos' := 8) (st' := [.int r1, .int v3]) (lI' := []) (lE' := []) rfl rfl rfl rfl ?_
    refine q_blf 0 [] (a := q_kc (t, r, m, z, N, ext, rx, L) I E 18 [some (.ref 474), some (.int v1), some (.int v2), some (.int v3)] [] [] []) (b := q_kc (t, r, m, z, N, ext, rx, L) I E 9 [some (.ref 474), some (.int v1), some (.int v2), some (.int v3)] [] [] []) (P := r1 ≤ v3) ok_X1_leadCount rfl q_cn (fun h2 => ?_) (fun h2 => ?_)
    · have hf := q_ip h2 hf
      refine q_less (ls' := [none, none, some (.int v2), none]) (q_sb1 (q_sb1 (q_sb2 (q_sb1 q_sb0)))) ?_
      cases hf
      exact q_Jpad [] [] rfl rfl hK0
    · have hf := q_in h2 hf
      refine q_blk 3 [] (c' := q_kc (t, r, m, z, N, ext, rx, L) I E 12 [some (.ref 474), some (.int v1), some (.int v2), some (.int v3)] [.int v3, .int v1, .ref 474] [] []) ok_X1_leadCount rfl q_cn ?_
      obtain ⟨r3, hr3, hf⟩ := q_bd hf
      refine q_kV (M2 := m_X1_lead) (As := [.int v1, .int v3]) (b := 474) (v2 := some (.int r3)) ok_X1_leadCount ok_X1_lead cv_X1_lead (ct_X1_lead_474 (d := 2) (Nat.le_refl _) hr3) rfl rfl (Or.inl rfl) rfl rfl rfl rfl (Nat.le_trans (Nat.le_of_ble_eq_true rfl) hd) hk hn (Nat.le_of_ble_eq_true rfl) (fun x hx => absurd hx List.not_mem_nil) (q_nmL0 _) (q_nmS0 _) rfl (pos' := 13) (st' := [.int r3]) (lI' := []) (lE' := []) rfl rfl rfl rfl ?_
      refine q_blf 1 [] (a := q_kc (t, r, m, z, N, ext, rx, L) I E 16 [some (.ref 474), some (.int v1), some (.int v2), some (.int v3)] [] [] []) (b := q_kc (t, r, m, z, N, ext, rx, L) I E 15 [some (.ref 474), some (.int v1), some (.int v2), some (.int v3)] [] [] []) (P := r3 = (-1 : Int32)) ok_X1_leadCount rfl q_cn (fun h4 => ?_) (fun h4 => ?_)
      · have hf := q_ip h4 hf
        refine q_blk 2 [] (c' := q_kc (t, r, m, z, N, ext, rx, L) I E 4 [some (.ref 474), some (.int v1), some (.int v2), some (.int (v3 + 1))] [] [] []) ok_X1_leadCount rfl q_cn ?_
        exact ih (I := q_ws I []) (E := q_ws E []) hf (q_Jmrg rfl rfl hK0)
      · have hf := q_in h4 hf
        refine q_blk 3 [] (c' := q_kc (t, r, m, z, N, ext, rx, L) I E 4 [some (.ref 474), some (.int v1), some (.int (v2 + 1)), some (.int (v3 + 1))] [] [] []) ok_X1_leadCount rfl q_cn ?_
        exact ih (I := q_ws I []) (E := q_ws E []) hf (q_Jmrg rfl rfl hK0)
set_option maxHeartbeats 4000000 in
theorem ct_X1_leadCount_474 {g : q_G} {t : Nat} {r : Nat} {m : Nat} {z : Nat} {N : Nat} {ext : Nat → q_Sh} {rx : Nat → Nat → Option Nat} {L : Nat → Nat → Int64} {d : Nat} (hd : 3 ≤ d)  {I : Nat → Nat → Int32} {E : Nat → Nat → Option Nat} {x1 : Int32} {r0 : Int32} (hf : f_X1_leadCount (I 479) (I 480) x1 = some r0) : q_Ct g m_X1_leadCount d 0 0 [] [.ref 474, .int x1] (q_hp (t, r, m, z, N, ext, rx, L) I E) (fun o h' => o = .inl (some (.int r0)) ∧ h' = q_hp (t, r, m, z, N, ext, rx, L) (q_ws I []) (q_ws E [])) := by
  rw [f_X1_leadCount] at hf
  refine q_Ct_of ok_X1_leadCount (Nat.le_of_ble_eq_true rfl) ?_ _ rfl rfl
  change q_J g m_X1_leadCount d 0 0 _ [] _ 0 0 (q_kc (t, r, m, z, N, ext, rx, L) I E 0 [some (.ref 474), some (.int x1), none, none] [] [] [])
  refine q_blk 4 [] (c' := q_kc (t, r, m, z, N, ext, rx, L) I E 4 [some (.ref 474), some (.int x1), some (.int (0 : Int32)), some (.int (0 : Int32))] [] [] []) ok_X1_leadCount rfl q_cn ?_
  obtain ⟨r5, hr5, hf⟩ := q_bd hf
  refine lp_X1_leadCount_L4_474 (I := q_ws I []) (E := q_ws E []) hd (Nat.le_of_ble_eq_true rfl) (Nat.le_of_ble_eq_true rfl) 4096 hr5 ?_
  refine q_Jmrg (lI' := []) (lE' := []) rfl rfl ?_
  refine q_blk 1 [] (c' := q_kc (t, r, m, z, N, ext, rx, L) I E 19 [none, none, some (.int r5), none] [.int r5] [] []) ok_X1_leadCount rfl q_cn ?_
  cases hf
  exact q_kri ok_X1_leadCount rfl rfl rfl (Nat.le_of_ble_eq_true rfl) (Nat.le_of_ble_eq_true rfl) ⟨rfl, q_hpe (q_fin [] rfl) (q_fin [] rfl)⟩
set_option maxHeartbeats 4000000 in
theorem ct_X1_isGone_474 {g : q_G} {t : Nat} {r : Nat} {m : Nat} {z : Nat} {N : Nat} {ext : Nat → q_Sh} {rx : Nat → Nat → Option Nat} {L : Nat → Nat → Int64} {d : Nat} (hd : 1 ≤ d)  {I : Nat → Nat → Int32} {E : Nat → Nat → Option Nat} {x1 : Int32} {r0 : Bool} (hf : f_X1_isGone (I 475) x1 = some r0) : q_Ct g m_X1_isGone d 0 0 [] [.ref 474, .int x1] (q_hp (t, r, m, z, N, ext, rx, L) I E) (fun o h' => o = .inl (some (.int (q_bz r0))) ∧ h' = q_hp (t, r, m, z, N, ext, rx, L) (q_ws I []) (q_ws E [])) := by
  rw [f_X1_isGone] at hf
  refine q_Ct_of ok_X1_isGone (Nat.le_of_ble_eq_true rfl) ?_ _ rfl rfl
  change q_J g m_X1_isGone d 0 0 _ [] _ 0 0 (q_kc (t, r, m, z, N, ext, rx, L) I E 0 [some (.ref 474), some (.int x1)] [] [] [])
  refine q_blf 1 [] (a := q_kc (t, r, m, z, N, ext, rx, L) I E 10 [some (.ref 474), some (.int x1)] [] [] []) (b := q_kc (t, r, m, z, N, ext, rx, L) I E 2 [some (.ref 474), some (.int x1)] [] [] []) (P := x1 < 0) ok_X1_isGone rfl q_cn (fun h1 => ?_) (fun h1 => ?_)
  · have hf := q_ip h1 hf
    refine q_blk 2 [] (c' := q_kc (t, r, m, z, N, ext, rx, L) I E 13 [some (.ref 474), some (.int x1)] [.int (1 : Int32)] [] []) ok_X1_isGone rfl q_cn ?_
    cases hf
    exact q_kri ok_X1_isGone rfl rfl rfl (Nat.le_of_ble_eq_true rfl) (Nat.le_of_ble_eq_true rfl) ⟨rfl, q_hpe (q_fin [] rfl) (q_fin [] rfl)⟩
  · have hf := q_in h1 hf
    refine q_blf 2 [] (a := q_kc (t, r, m, z, N, ext, rx, L) I E 10 [some (.ref 474), some (.int x1)] [] [] []) (b := q_kc (t, r, m, z, N, ext, rx, L) I E 5 [some (.ref 474), some (.int x1)] [] [] []) (P := (128 : Int32) ≤ x1) ok_X1_isGone rfl q_cn (fun h2 => ?_) (fun h2 => ?_)
    · have hf := q_ip h2 hf
      refine q_blk 2 [] (c' := q_kc (t, r, m, z, N, ext, rx, L) I E 13 [some (.ref 474), some (.int x1)] [.int (1 : Int32)] [] []) ok_X1_isGone rfl q_cn ?_
      cases hf
      exact q_kri ok_X1_isGone rfl rfl rfl (Nat.le_of_ble_eq_true rfl) (Nat.le_of_ble_eq_true rfl) ⟨rfl, q_hpe (q_fin [] rfl) (q_fin [] rfl)⟩
    · have hf := q_in h2 hf
      obtain ⟨j3, hj3, hf⟩ := q_bd hf
      refine q_blf 4 [j3] (a := q_kc (t, r, m, z, N, ext, rx, L) I E 12 [some (.ref 474), some (.int x1)] [] [] []) (b := q_kc (t, r, m, z, N, ext, rx, L) I E 10 [some (.ref 474), some (.int x1)] [] [] []) (P := ¬ ((I 475) j3) = 0) ok_X1_isGone rfl (q_cc hj3 q_cn) (fun h4 => ?_) (fun h4 => ?_)
      · have hf := q_ip h4 hf
        refine q_blk 1 [] (c' := q_kc (t, r, m, z, N, ext, rx, L) I E 13 [some (.ref 474), some (.int x1)] [.int (0 : Int32)] [] []) ok_X1_isGone rfl q_cn ?_
        cases hf
        exact q_kri ok_X1_isGone rfl rfl rfl (Nat.le_of_ble_eq_true rfl) (Nat.le_of_ble_eq_true rfl) ⟨rfl, q_hpe (q_fin [] rfl) (q_fin [] rfl)⟩
      · have hf := q_in h4 hf
        refine q_blk 2 [] (c' := q_kc (t, r, m, z, N, ext, rx, L) I E 13 [some (.ref 474), some (.int x1)] [.int (1 : Int32)] [] []) ok_X1_isGone rfl q_cn ?_
        cases hf
        exact q_kri ok_X1_isGone rfl rfl rfl (Nat.le_of_ble_eq_true rfl) (Nat.le_of_ble_eq_true rfl) ⟨rfl, q_hpe (q_fin [] rfl) (q_fin [] rfl)⟩
set_option maxHeartbeats 4000000 in
theorem ct_X1_setLead_474 {g : q_G} {t : Nat} {r : Nat} {m : Nat} {z : Nat} {N : Nat} {ext : Nat → q_Sh} {rx : Nat → Nat → Option Nat} {L : Nat → Nat → Int64} {d : Nat} (hd : 2 ≤ d)  {I : Nat → Nat → Int32} {E : Nat → Nat → Option Nat} {x1 : Int32} {x2 : Int32} {x3 : Int32} {r0 : (Nat → Int32)} (hf : f_X1_setLead (I 479) (I 480) x1 x2 x3 = some r0) : q_Ct g m_X1_setLead d 0 0 [] [.ref 474, .int x1, .int x2, .int x3] (q_hp (t, r, m, z, N, ext, rx, L) I E) (fun o h' => o = .inl none ∧ h' = q_hp (t, r, m, z, N, ext, rx, L) (q_ws I [(480, r0)]) (q_ws E [])) := by
  rw [f_X1_setLead] at hf
  refine q_Ct_of ok_X1_setLead (Nat.le_of_ble_eq_true rfl) ?_ _ rfl rfl
  change q_J g m_X1_setLead d 0 0 _ [] _ 0 0 (q_kc (t, r, m, z, N, ext, rx, L) I E 0 [some (.ref 474), some (.int x1), some (.int x2), some (.int x3)] [] [] [])
  refine q_blk 3 [] (c' := q_kc (t, r, m, z, N, ext, rx, L) I E 3 [some (.ref 474), some (.int x1), some (.int x2), some (.int x3)] [.int x2, .int x1, .ref 474] [] []) ok_X1_setLead rfl q_cn ?_
  obtain ⟨r1, hr1, hf⟩ := q_bd hf
  refine q_kV (M2 := m_X1_hasRope) (As := [.int x1, .int x2]) (b := 474) (v2 := some (.int (q_bz r1))) ok_X1_setLead ok_X1_hasRope cv_X1_hasRope (ct_X1_hasRope_474 (d := 1) (Nat.le_refl _) hr1) rfl rfl (Or.inl rfl) rfl rfl rfl rfl (Nat.le_trans (Nat.le_of_ble_eq_true rfl) hd) (Nat.le_of_ble_eq_true rfl) (Nat.le_of_ble_eq_true rfl) (Nat.le_of_ble_eq_true rfl) (fun x hx => absurd hx List.not_mem_nil) (q_nmL0 _) (q_nmS0 _) rfl (pos' := 4) (st' := [.int (q_bz r1)]) (lI' := []) (lE' := []) rfl rfl rfl rfl ?_
  refine q_blf 0 [] (a := q_kc (t, r, m, z, N, ext, rx, L) I E 14 [some (.ref 474), some (.int x1), some (.int x2), some (.int x3)] [] [] []) (b := q_kc (t, r, m, z, N, ext, rx, L) I E 5 [some (.ref 474), some (.int x1), some (.int x2), some (.int x3)] [] [] []) (P := (q_bz r1) = 0) ok_X1_setLead rfl q_cn (fun h2 => ?_) (fun h2 => ?_)
  · have hf := q_ip h2 hf
    cases hf
    exact q_krv ok_X1_setLead rfl rfl (Nat.le_of_ble_eq_true rfl) (Nat.le_of_ble_eq_true rfl) ⟨rfl, q_hpe (q_fin [480] rfl) (q_fin [] rfl)⟩
  · have hf := q_in h2 hf
    obtain ⟨j3, hj3, hf⟩ := q_bd hf
    refine q_blk 9 [j3] (c' := q_kc (t, r, m, z, N, ext, rx, L) I E 14 [some (.ref 474), some (.int x1), some (.int x2), some (.int x3)] [] [(480, (q_up (I 480) j3 x3))] []) ok_X1_setLead rfl (q_cc hj3 q_cn) ?_
    cases hf
    exact q_krv ok_X1_setLead rfl rfl (Nat.le_of_ble_eq_true rfl) (Nat.le_of_ble_eq_true rfl) ⟨rfl, q_hpe (q_fin [480] rfl) (q_fin [] rfl)⟩
set_option maxHeartbeats 4000000 in
theorem lp_X1_untieFromGone_L7_474 {g : q_G} {d mc ms : Nat} {h0 : q_H} {Q : (Option Value ⊕ String) → q_H → Prop} {k n : Nat} {t : Nat} {r : Nat} {m : Nat} {z : Nat} {N : Nat} {ext : Nat → q_Sh} {rx : Nat → Nat → Option Nat} {L : Nat → Nat → Int64} (hd : 3 ≤ d) (hk : k ≤ mc) (hn : n ≤ ms)  {v1 : Int32} : ∀ (fu : Nat) {I : Nat → Nat → Int32} {E : Nat → Nat → Option Nat} {v2 : Int32} {r0 : (Nat → Int32)} (hf : f_X1_untieFromGone_L7 (I 475) (I 479) v1 fu (I 480) v2 = some r0) (hK0 : q_J g m_X1_untieFromGone d mc ms h0 [] Q k n (q_kc (t, r, m, z, N, ext, rx, L) I E 26 [some (.ref 474), some (.int v1), none] [] [(480, r0)] [])), q_J g m_X1_untieFromGone d mc ms h0 [] Q k n (7, [some (.ref 474), some (.int v1), some (.int v2)], [], q_hp (t, r, m, z, N, ext, rx, L) I E) := by
  intro fu
  induction fu with
  | zero =>
    intro I E v2 r0 hf hK0
    rw [f_X1_untieFromGone_L7] at hf
    cases hf
  | succ fu ih =>
    intro I E v2 r0 hf hK0
    rw [f_X1_untieFromGone_L7] at hf
    change q_J g m_X1_untieFromGone d mc ms h0 [] Q k n (q_kc (t, r, m, z, N, ext, rx, L) I E 7 [some (.ref 474), some (.int v1), some (.int v2)] [] [] [])
    refine q_blk 3 [] (c' := q_kc (t, r, m, z, N, ext, rx, L) I E 10 [some (.ref 474), some (.int v1), some (.int v2)] [.int v1, .ref 474, .int v2] [] []) ok_X1_untieFromGone rfl q_cn ?_
    obtain ⟨r1, hr1, hf⟩ := q_bd hf
    refine q_kV (M2 := m_X1_ropes) (As := [.int v1]) (b := 474) (v2 := some (.int r1)) ok_X1_untieFromGone ok_X1_ropes cv_X1_ropes (ct_X1_ropes_474 (d := 1) (Nat.le_refl _) hr1) rfl rfl (Or.inl rfl) rfl rfl rfl rfl (Nat.le_trans (Nat.le_of_ble_eq_true rfl) hd) hk hn (Nat.le_of_ble_eq_true rfl) (fun x hx => absurd hx List.not_mem_nil) (q_nmL0 _) (q_nmS0 _) rfl (pos' := 11) (st' := [.int r1, .int v2]) (lI' := []) (lE' := []) rfl rfl rfl rfl ?_
    refine q_blf 0 [] (a := q_kc (t, r, m, z, N, ext, rx, L) I E 26 [some (.ref 474), some (.int v1), some (.int v2)] [] [] []) (b := q_kc (t, r, m, z, N, ext, rx, L) I E 12 [some (.ref 474), some (.int v1), some (.int v2)] [] [] []) (P := r1 ≤ v2) ok_X1_untieFromGone rfl q_cn (fun h2 => ?_) (fun h2 => ?_)
    · have hf := q_ip h2 hf
      refine q_less (ls' := [some (.ref 474), some (.int v1), none]) (q_sb2 (q_sb2 (q_sb1 q_sb0))) ?_
      cases hf
      exact q_Jpad [480] [] rfl rfl hK0
    · have hf := q_in h2 hf
      refine q_blk 4 [] (c' := q_kc (t, r, m, z, N, ext, rx, L) I E 16 [some (.ref 474), some (.int v1), some (.int v2)] [.int v2, .int v1, .ref 474, .ref 474] [] []) ok_X1_untieFromGone rfl q_cn ?_
      obtain ⟨r3, hr3, hf⟩ := q_bd hf
      refine q_kV (M2 := m_X1_lead) (As := [.int v1, .int v2]) (b := 474) (v2 := some (.int r3)) ok_X1_untieFromGone ok_X1_lead cv_X1_lead (ct_X1_lead_474 (d := 2) (Nat.le_refl _) hr3) rfl rfl (Or.inl rfl) rfl rfl rfl rfl (Nat.le_trans (Nat.le_of_ble_eq_true rfl) hd) hk hn (Nat.le_of_ble_eq_true rfl) (fun x hx => absurd hx List.not_mem_nil) (q_nmL0 _) (q_nmS0 _) rfl (pos' := 17) (st' := [.int r3, .ref 474]) (lI' := []) (lE' := []) rfl rfl rfl rfl ?_
      obtain ⟨r4, hr4, hf⟩ := q_bd hf
      refine q_kV (M2 := m_X1_isGone) (As := [.int r3]) (b := 474) (v2 := some (.int (q_bz r4))) ok_X1_untieFromGone ok_X1_isGone cv_X1_isGone (ct_X1_isGone_474 (d := 1) (Nat.le_refl _) hr4) rfl rfl (Or.inl rfl) rfl rfl rfl rfl (Nat.le_trans (Nat.le_of_ble_eq_true rfl) hd) hk hn (Nat.le_of_ble_eq_true rfl) (fun x hx => absurd hx List.not_mem_nil) (q_nmL0 _) (q_nmS0 _) rfl (pos' := 18) (st' := [.int (q_bz r4)]) (lI' := []) (lE' := []) rfl rfl rfl rfl ?_
      refine q_blf 0 [] (a := q_kc (t, r, m, z, N, ext, rx, L) I E 24 [some (.ref 474), some (.int v1), some (.int v2)] [] [] []) (b := q_kc (t, r, m, z, N, ext, rx, L) I E 19 [some (.ref 474), some (.int v1), some (.int v2)] [] [] []) (P := (q_bz r4) = 0) ok_X1_untieFromGone rfl q_cn (fun h5 => ?_) (fun h5 => ?_)
      · have hf := q_ip h5 hf
        refine q_blk 2 [] (c' := q_kc (t, r, m, z, N, ext, rx, L) I E 7 [some (.ref 474), some (.int v1), some (.int (v2 + 1))] [] [] []) ok_X1_untieFromGone rfl q_cn ?_
        exact ih (I := q_ws I []) (E := q_ws E []) hf (q_Jmrg rfl rfl hK0)
      · have hf := q_in h5 hf
        refine q_blk 4 [] (c' := q_kc (t, r, m, z, N, ext, rx, L) I E 23 [some (.ref 474), some (.int v1), some (.int v2)] [.int (-1 : Int32), .int v2, .int v1, .ref 474] [] []) ok_X1_untieFromGone rfl q_cn ?_
        obtain ⟨r6, hr6, hf⟩ := q_bd hf
        refine q_kV (M2 := m_X1_setLead) (As := [.int v1, .int v2, .int (-1 : Int32)]) (b := 474) (v2 := none) ok_X1_untieFromGone ok_X1_setLead cv_X1_setLead (ct_X1_setLead_474 (d := 2) (Nat.le_refl _) hr6) rfl rfl (Or.inl rfl) rfl rfl rfl rfl (Nat.le_trans (Nat.le_of_ble_eq_true rfl) hd) hk hn (Nat.le_of_ble_eq_true rfl) (fun x hx => absurd hx List.not_mem_nil) (q_nmL0 _) (q_nmS0 _) rfl (pos' := 24) (st' := []) (lI' := [(480, r6)]) (lE' := []) rfl rfl rfl rfl ?_
        refine q_blk 2 [] (c' := q_kc (t, r, m, z, N, ext, rx, L) I E 7 [some (.ref 474), some (.int v1), some (.int (v2 + 1))] [] [(480, r6)] []) ok_X1_untieFromGone rfl q_cn ?_
        exact ih (I := q_ws I [(480, r6)]) (E := q_ws E []) hf (q_Jmrg rfl rfl hK0)
set_option maxHeartbeats 4000000 in
theorem lp_X1_untieFromGone_L2_474 {g : q_G} {d mc ms : Nat} {h0 : q_H} {Q : (Option Value ⊕ String) → q_H → Prop} {k n : Nat} {t : Nat} {r : Nat} {m : Nat} {z : Nat} {N : Nat} {ext : Nat → q_Sh} {rx : Nat → Nat → Option Nat} {L : Nat → Nat → Int64} (hd : 3 ≤ d) (hk : k ≤ mc) (hn : n ≤ ms)  : ∀ (fu : Nat) {I : Nat → Nat → Int32} {E : Nat → Nat → Option Nat} {v1 : Int32} {r0 : (Nat → Int32)} (hf : f_X1_untieFromGone_L2 (I 475) (I 479) fu (I 480) v1 = some r0) (hK0 : q_J g m_X1_untieFromGone d mc ms h0 [] Q k n (q_kc (t, r, m, z, N, ext, rx, L) I E 28 [none, none, none] [] [(480, r0)] [])), q_J g m_X1_untieFromGone d mc ms h0 [] Q k n (2, [some (.ref 474), some (.int v1), none], [], q_hp (t, r, m, z, N, ext, rx, L) I E) := by
  intro fu
  induction fu with
  | zero =>
    intro I E v1 r0 hf hK0
    rw [f_X1_untieFromGone_L2] at hf
    cases hf
  | succ fu ih =>
    intro I E v1 r0 hf hK0
    rw [f_X1_untieFromGone_L2] at hf
    change q_J g m_X1_untieFromGone d mc ms h0 [] Q k n (q_kc (t, r, m, z, N, ext, rx, L) I E 2 [some (.ref 474), some (.int v1), none] [] [] [])
    refine q_blf 2 [] (a := q_kc (t, r, m, z, N, ext, rx, L) I E 28 [some (.ref 474), some (.int v1), none] [] [] []) (b := q_kc (t, r, m, z, N, ext, rx, L) I E 5 [some (.ref 474), some (.int v1), none] [] [] []) (P := (128 : Int32) ≤ v1) ok_X1_untieFromGone rfl q_cn (fun h7 => ?_) (fun h7 => ?_)
    · have hf := q_ip h7 hf
      refine q_less (ls' := [none, none, none]) (q_sb1 (q_sb1 (q_sb1 q_sb0))) ?_
      cases hf
      exact q_Jpad [480] [] rfl rfl hK0
    · have hf := q_in h7 hf
      refine q_blk 2 [] (c' := q_kc (t, r, m, z, N, ext, rx, L) I E 7 [some (.ref 474), some (.int v1), some (.int (0 : Int32))] [] [] []) ok_X1_untieFromGone rfl q_cn ?_
      obtain ⟨r8, hr8, hf⟩ := q_bd hf
      refine lp_X1_untieFromGone_L7_474 (I := q_ws I []) (E := q_ws E []) hd hk hn 4096 hr8 ?_
      refine q_Jmrg (lI' := [(480, r8)]) (lE' := []) rfl rfl ?_
      refine q_blk 2 [] (c' := q_kc (t, r, m, z, N, ext, rx, L) I E 2 [some (.ref 474), some (.int (v1 + 1)), none] [] [(480, r8)] []) ok_X1_untieFromGone rfl q_cn ?_
      exact ih (I := q_ws I [(480, r8)]) (E := q_ws E []) hf (q_Jmrg rfl rfl hK0)
set_option maxHeartbeats 4000000 in
theorem ct_X1_untieFromGone_474 {g : q_G} {t : Nat} {r : Nat} {m : Nat} {z : Nat} {N : Nat} {ext : Nat → q_Sh} {rx : Nat → Nat → Option Nat} {L : Nat → Nat → Int64} {d : Nat} (hd : 3 ≤ d)  {I : Nat → Nat → Int32} {E : Nat → Nat → Option Nat} {r0 : (Nat → Int32)} (hf : f_X1_untieFromGone (I 475) (I 479) (I 480) = some r0) : q_Ct g m_X1_untieFromGone d 0 0 [] [.ref 474] (q_hp (t, r, m, z, N, ext, rx, L) I E) (fun o h' => o = .inl none ∧ h' = q_hp (t, r, m, z, N, ext, rx, L) (q_ws I [(480, r0)]) (q_ws E [])) := by
  rw [f_X1_untieFromGone] at hf
  refine q_Ct_of ok_X1_untieFromGone (Nat.le_of_ble_eq_true rfl) ?_ _ rfl rfl
  change q_J g m_X1_untieFromGone d 0 0 _ [] _ 0 0 (q_kc (t, r, m, z, N, ext, rx, L) I E 0 [some (.ref 474), none, none] [] [] [])
  refine q_blk 2 [] (c' := q_kc (t, r, m, z, N, ext, rx, L) I E 2 [some (.ref 474), some (.int (0 : Int32)), none] [] [] []) ok_X1_untieFromGone rfl q_cn ?_
  obtain ⟨r9, hr9, hf⟩ := q_bd hf
  refine lp_X1_untieFromGone_L2_474 (I := q_ws I []) (E := q_ws E []) hd (Nat.le_of_ble_eq_true rfl) (Nat.le_of_ble_eq_true rfl) 4096 hr9 ?_
  refine q_Jmrg (lI' := [(480, r9)]) (lE' := []) rfl rfl ?_
  cases hf
  exact q_krv ok_X1_untieFromGone rfl rfl (Nat.le_of_ble_eq_true rfl) (Nat.le_of_ble_eq_true rfl) ⟨rfl, q_hpe (q_fin [480] rfl) (q_fin [] rfl)⟩
set_option maxHeartbeats 4000000 in
theorem ct_X1_size_474 {g : q_G} {t : Nat} {r : Nat} {m : Nat} {z : Nat} {N : Nat} {ext : Nat → q_Sh} {rx : Nat → Nat → Option Nat} {L : Nat → Nat → Int64} {d : Nat} (hd : 1 ≤ d)  {I : Nat → Nat → Int32} {E : Nat → Nat → Option Nat} {x1 : Int32} {r0 : Int32} (hf : f_X1_size (I 477) x1 = some r0) : q_Ct g m_X1_size d 0 0 [] [.ref 474, .int x1] (q_hp (t, r, m, z, N, ext, rx, L) I E) (fun o h' => o = .inl (some (.int r0)) ∧ h' = q_hp (t, r, m, z, N, ext, rx, L) (q_ws I []) (q_ws E [])) := by
  rw [f_X1_size] at hf
  refine q_Ct_of ok_X1_size (Nat.le_of_ble_eq_true rfl) ?_ _ rfl rfl
  change q_J g m_X1_size d 0 0 _ [] _ 0 0 (q_kc (t, r, m, z, N, ext, rx, L) I E 0 [some (.ref 474), some (.int x1)] [] [] [])
  refine q_blf 1 [] (a := q_kc (t, r, m, z, N, ext, rx, L) I E 10 [some (.ref 474), some (.int x1)] [] [] []) (b := q_kc (t, r, m, z, N, ext, rx, L) I E 2 [some (.ref 474), some (.int x1)] [] [] []) (P := x1 < 0) ok_X1_size rfl q_cn (fun h1 => ?_) (fun h1 => ?_)
  · have hf := q_ip h1 hf
    refine q_blk 1 [] (c' := q_kc (t, r, m, z, N, ext, rx, L) I E 11 [some (.ref 474), some (.int x1)] [.int (0 : Int32)] [] []) ok_X1_size rfl q_cn ?_
    cases hf
    exact q_kri ok_X1_size rfl rfl rfl (Nat.le_of_ble_eq_true rfl) (Nat.le_of_ble_eq_true rfl) ⟨rfl, q_hpe (q_fin [] rfl) (q_fin [] rfl)⟩
  · have hf := q_in h1 hf
    refine q_blf 2 [] (a := q_kc (t, r, m, z, N, ext, rx, L) I E 10 [some (.ref 474), some (.int x1)] [] [] []) (b := q_kc (t, r, m, z, N, ext, rx, L) I E 5 [some (.ref 474), some (.int x1)] [] [] []) (P := (128 : Int32) ≤ x1) ok_X1_size rfl q_cn (fun h2 => ?_) (fun h2 => ?_)
    · have hf := q_ip h2 hf
      refine q_blk 1 [] (c' := q_kc (t, r, m, z, N, ext, rx, L) I E 11 [some (.ref 474), some (.int x1)] [.int (0 : Int32)] [] []) ok_X1_size rfl q_cn ?_
      cases hf
      exact q_kri ok_X1_size rfl rfl rfl (Nat.le_of_ble_eq_true rfl) (Nat.le_of_ble_eq_true rfl) ⟨rfl, q_hpe (q_fin [] rfl) (q_fin [] rfl)⟩
    · have hf := q_in h2 hf
      obtain ⟨j3, hj3, hf⟩ := q_bd hf
      refine q_blk 5 [j3] (c' := q_kc (t, r, m, z, N, ext, rx, L) I E 11 [some (.ref 474), some (.int x1)] [.int ((I 477) j3)] [] []) ok_X1_size rfl (q_cc hj3 q_cn) ?_
      cases hf
      exact q_kri ok_X1_size rfl rfl rfl (Nat.le_of_ble_eq_true rfl) (Nat.le_of_ble_eq_true rfl) ⟨rfl, q_hpe (q_fin [] rfl) (q_fin [] rfl)⟩
set_option maxHeartbeats 4000000 in
theorem ct_X1_age_474 {g : q_G} {t : Nat} {r : Nat} {m : Nat} {z : Nat} {N : Nat} {ext : Nat → q_Sh} {rx : Nat → Nat → Option Nat} {L : Nat → Nat → Int64} {d : Nat} (hd : 1 ≤ d)  {I : Nat → Nat → Int32} {E : Nat → Nat → Option Nat} {x1 : Int32} {r0 : Int32} (hf : f_X1_age (I 478) x1 = some r0) : q_Ct g m_X1_age d 0 0 [] [.ref 474, .int x1] (q_hp (t, r, m, z, N, ext, rx, L) I E) (fun o h' => o = .inl (some (.int r0)) ∧ h' = q_hp (t, r, m, z, N, ext, rx, L) (q_ws I []) (q_ws E [])) := by
  rw [f_X1_age] at hf
  refine q_Ct_of ok_X1_age (Nat.le_of_ble_eq_true rfl) ?_ _ rfl rfl
  change q_J g m_X1_age d 0 0 _ [] _ 0 0 (q_kc (t, r, m, z, N, ext, rx, L) I E 0 [some (.ref 474), some (.int x1)] [] [] [])
  refine q_blf 1 [] (a := q_kc (t, r, m, z, N, ext, rx, L) I E 10 [some (.ref 474), some (.int x1)] [] [] []) (b := q_kc (t, r, m, z, N, ext, rx, L) I E 2 [some (.ref 474), some (.int x1)] [] [] []) (P := x1 < 0) ok_X1_age rfl q_cn (fun h1 => ?_) (fun h1 => ?_)
  · have hf := q_ip h1 hf
    refine q_blk 1 [] (c' := q_kc (t, r, m, z, N, ext, rx, L) I E 11 [some (.ref 474), some (.int x1)] [.int (0 : Int32)] [] []) ok_X1_age rfl q_cn ?_
    cases hf
    exact q_kri ok_X1_age rfl rfl rfl (Nat.le_of_ble_eq_true rfl) (Nat.le_of_ble_eq_true rfl) ⟨rfl, q_hpe (q_fin [] rfl) (q_fin [] rfl)⟩
  · have hf := q_in h1 hf
    refine q_blf 2 [] (a := q_kc (t, r, m, z, N, ext, rx, L) I E 10 [some (.ref 474), some (.int x1)] [] [] []) (b := q_kc (t, r, m, z, N, ext, rx, L) I E 5 [some (.ref 474), some (.int x1)] [] [] []) (P := (128 : Int32) ≤ x1) ok_X1_age rfl q_cn (fun h2 => ?_) (fun h2 => ?_)
    · have hf := q_ip h2 hf
      refine q_blk 1 [] (c' := q_kc (t, r, m, z, N, ext, rx, L) I E 11 [some (.ref 474), some (.int x1)] [.int (0 : Int32)] [] []) ok_X1_age rfl q_cn ?_
      cases hf
      exact q_kri ok_X1_age rfl rfl rfl (Nat.le_of_ble_eq_true rfl) (Nat.le_of_ble_eq_true rfl) ⟨rfl, q_hpe (q_fin [] rfl) (q_fin [] rfl)⟩
    · have hf := q_in h2 hf
      obtain ⟨j3, hj3, hf⟩ := q_bd hf
      refine q_blk 5 [j3] (c' := q_kc (t, r, m, z, N, ext, rx, L) I E 11 [some (.ref 474), some (.int x1)] [.int ((I 478) j3)] [] []) ok_X1_age rfl (q_cc hj3 q_cn) ?_
      cases hf
      exact q_kri ok_X1_age rfl rfl rfl (Nat.le_of_ble_eq_true rfl) (Nat.le_of_ble_eq_true rfl) ⟨rfl, q_hpe (q_fin [] rfl) (q_fin [] rfl)⟩
set_option maxHeartbeats 4000000 in
theorem ct_X1_liesInHalf_474 {g : q_G} {t : Nat} {r : Nat} {m : Nat} {z : Nat} {N : Nat} {ext : Nat → q_Sh} {rx : Nat → Nat → Option Nat} {L : Nat → Nat → Int64} {d : Nat} (hd : 1 ≤ d)  {I : Nat → Nat → Int32} {E : Nat → Nat → Option Nat} {x1 : Int32} {r0 : Bool} (hf : f_X1_liesInHalf (I 475) x1 = some r0) : q_Ct g m_X1_liesInHalf d 0 0 [] [.ref 474, .int x1] (q_hp (t, r, m, z, N, ext, rx, L) I E) (fun o h' => o = .inl (some (.int (q_bz r0))) ∧ h' = q_hp (t, r, m, z, N, ext, rx, L) (q_ws I []) (q_ws E [])) := by
  rw [f_X1_liesInHalf] at hf
  refine q_Ct_of ok_X1_liesInHalf (Nat.le_of_ble_eq_true rfl) ?_ _ rfl rfl
  change q_J g m_X1_liesInHalf d 0 0 _ [] _ 0 0 (q_kc (t, r, m, z, N, ext, rx, L) I E 0 [some (.ref 474), some (.int x1)] [] [] [])
  refine q_blf 1 [] (a := q_kc (t, r, m, z, N, ext, rx, L) I E 13 [some (.ref 474), some (.int x1)] [] [] []) (b := q_kc (t, r, m, z, N, ext, rx, L) I E 2 [some (.ref 474), some (.int x1)] [] [] []) (P := x1 < 0) ok_X1_liesInHalf rfl q_cn (fun h1 => ?_) (fun h1 => ?_)
  · have hf := q_ip h1 hf
    refine q_blk 1 [] (c' := q_kc (t, r, m, z, N, ext, rx, L) I E 14 [some (.ref 474), some (.int x1)] [.int (0 : Int32)] [] []) ok_X1_liesInHalf rfl q_cn ?_
    cases hf
    exact q_kri ok_X1_liesInHalf rfl rfl rfl (Nat.le_of_ble_eq_true rfl) (Nat.le_of_ble_eq_true rfl) ⟨rfl, q_hpe (q_fin [] rfl) (q_fin [] rfl)⟩
  · have hf := q_in h1 hf
    refine q_blf 2 [] (a := q_kc (t, r, m, z, N, ext, rx, L) I E 13 [some (.ref 474), some (.int x1)] [] [] []) (b := q_kc (t, r, m, z, N, ext, rx, L) I E 5 [some (.ref 474), some (.int x1)] [] [] []) (P := (128 : Int32) ≤ x1) ok_X1_liesInHalf rfl q_cn (fun h2 => ?_) (fun h2 => ?_)
    · have hf := q_ip h2 hf
      refine q_blk 1 [] (c' := q_kc (t, r, m, z, N, ext, rx, L) I E 14 [some (.ref 474), some (.int x1)] [.int (0 : Int32)] [] []) ok_X1_liesInHalf rfl q_cn ?_
      cases hf
      exact q_kri ok_X1_liesInHalf rfl rfl rfl (Nat.le_of_ble_eq_true rfl) (Nat.le_of_ble_eq_true rfl) ⟨rfl, q_hpe (q_fin [] rfl) (q_fin [] rfl)⟩
    · have hf := q_in h2 hf
      obtain ⟨j3, hj3, hf⟩ := q_bd hf
      refine q_blf 5 [j3] (a := q_kc (t, r, m, z, N, ext, rx, L) I E 13 [some (.ref 474), some (.int x1)] [] [] []) (b := q_kc (t, r, m, z, N, ext, rx, L) I E 11 [some (.ref 474), some (.int x1)] [] [] []) (P := ¬ ((I 475) j3) = (1 : Int32)) ok_X1_liesInHalf rfl (q_cc hj3 q_cn) (fun h4 => ?_) (fun h4 => ?_)
      · have hf := q_ip h4 hf
        refine q_blk 1 [] (c' := q_kc (t, r, m, z, N, ext, rx, L) I E 14 [some (.ref 474), some (.int x1)] [.int (0 : Int32)] [] []) ok_X1_liesInHalf rfl q_cn ?_
        cases hf
        exact q_kri ok_X1_liesInHalf rfl rfl rfl (Nat.le_of_ble_eq_true rfl) (Nat.le_of_ble_eq_true rfl) ⟨rfl, q_hpe (q_fin [] rfl) (q_fin [] rfl)⟩
      · have hf := q_in h4 hf
        refine q_blk 2 [] (c' := q_kc (t, r, m, z, N, ext, rx, L) I E 14 [some (.ref 474), some (.int x1)] [.int (1 : Int32)] [] []) ok_X1_liesInHalf rfl q_cn ?_
        cases hf
        exact q_kri ok_X1_liesInHalf rfl rfl rfl (Nat.le_of_ble_eq_true rfl) (Nat.le_of_ble_eq_true rfl) ⟨rfl, q_hpe (q_fin [] rfl) (q_fin [] rfl)⟩
set_option maxHeartbeats 4000000 in
theorem ct_X1_liesInLoft_474 {g : q_G} {t : Nat} {r : Nat} {m : Nat} {z : Nat} {N : Nat} {ext : Nat → q_Sh} {rx : Nat → Nat → Option Nat} {L : Nat → Nat → Int64} {d : Nat} (hd : 1 ≤ d)  {I : Nat → Nat → Int32} {E : Nat → Nat → Option Nat} {x1 : Int32} {r0 : Bool} (hf : f_X1_liesInLoft (I 475) x1 = some r0) : q_Ct g m_X1_liesInLoft d 0 0 [] [.ref 474, .int x1] (q_hp (t, r, m, z, N, ext, rx, L) I E) (fun o h' => o = .inl (some (.int (q_bz r0))) ∧ h' = q_hp (t, r, m, z, N, ext, rx, L) (q_ws I []) (q_ws E [])) := by
  rw [f_X1_liesInLoft] at hf
  refine q_Ct_of ok_X1_liesInLoft (Nat.le_of_ble_eq_true rfl) ?_ _ rfl rfl
  change q_J g m_X1_liesInLoft d 0 0 _ [] _ 0 0 (q_kc (t, r, m, z, N, ext, rx, L) I E 0 [some (.ref 474), some (.int x1)] [] [] [])
  refine q_blf 1 [] (a := q_kc (t, r, m, z, N, ext, rx, L) I E 13 [some (.ref 474), some (.int x1)] [] [] []) (b := q_kc (t, r, m, z, N, ext, rx, L) I E 2 [some (.ref 474), some (.int x1)] [] [] []) (P := x1 < 0) ok_X1_liesInLoft rfl q_cn (fun h1 => ?_) (fun h1 => ?_)
  · have hf := q_ip h1 hf
    refine q_blk 1 [] (c' := q_kc (t, r, m, z, N, ext, rx, L) I E 14 [some (.ref 474), some (.int x1)] [.int (0 : Int32)] [] []) ok_X1_liesInLoft rfl q_cn ?_
    cases hf
    exact q_kri ok_X1_liesInLoft rfl rfl rfl (Nat.le_of_ble_eq_true rfl) (Nat.le_of_ble_eq_true rfl) ⟨rfl, q_hpe (q_fin [] rfl) (q_fin [] rfl)⟩
  · have hf := q_in h1 hf
    refine q_blf 2 [] (a := q_kc (t, r, m, z, N, ext, rx, L) I E 13 [some (.ref 474), some (.int x1)] [] [] []) (b := q_kc (t, r, m, z, N, ext, rx, L) I E 5 [some (.ref 474), some (.int x1)] [] [] []) (P := (128 : Int32) ≤ x1) ok_X1_liesInLoft rfl q_cn (fun h2 => ?_) (fun h2 => ?_)
    · have hf := q_ip h2 hf
      refine q_blk 1 [] (c' := q_kc (t, r, m, z, N, ext, rx, L) I E 14 [some (.ref 474), some (.int x1)] [.int (0 : Int32)] [] []) ok_X1_liesInLoft rfl q_cn ?_
      cases hf
      exact q_kri ok_X1_liesInLoft rfl rfl rfl (Nat.le_of_ble_eq_true rfl) (Nat.le_of_ble_eq_true rfl) ⟨rfl, q_hpe (q_fin [] rfl) (q_fin [] rfl)⟩
    · have hf := q_in h2 hf
      obtain ⟨j3, hj3, hf⟩ := q_bd hf
      refine q_blf 5 [j3] (a := q_kc (t, r, m, z, N, ext, rx, L) I E 13 [some (.ref 474), some (.int x1)] [] [] []) (b := q_kc (t, r, m, z, N, ext, rx, L) I E 11 [some (.ref 474), some (.int x1)] [] [] []) (P := ¬ ((I 475) j3) = (2 : Int32)) ok_X1_liesInLoft rfl (q_cc hj3 q_cn) (fun h4 => ?_) (fun h4 => ?_)
      · have hf := q_ip h4 hf
        refine q_blk 1 [] (c' := q_kc (t, r, m, z, N, ext, rx, L) I E 14 [some (.ref 474), some (.int x1)] [.int (0 : Int32)] [] []) ok_X1_liesInLoft rfl q_cn ?_
        cases hf
        exact q_kri ok_X1_liesInLoft rfl rfl rfl (Nat.le_of_ble_eq_true rfl) (Nat.le_of_ble_eq_true rfl) ⟨rfl, q_hpe (q_fin [] rfl) (q_fin [] rfl)⟩
      · have hf := q_in h4 hf
        refine q_blk 2 [] (c' := q_kc (t, r, m, z, N, ext, rx, L) I E 14 [some (.ref 474), some (.int x1)] [.int (1 : Int32)] [] []) ok_X1_liesInLoft rfl q_cn ?_
        cases hf
        exact q_kri ok_X1_liesInLoft rfl rfl rfl (Nat.le_of_ble_eq_true rfl) (Nat.le_of_ble_eq_true rfl) ⟨rfl, q_hpe (q_fin [] rfl) (q_fin [] rfl)⟩
set_option maxHeartbeats 4000000 in
theorem ct_X1_remove_474 {g : q_G} {t : Nat} {r : Nat} {m : Nat} {z : Nat} {N : Nat} {ext : Nat → q_Sh} {rx : Nat → Nat → Option Nat} {L : Nat → Nat → Int64} {d : Nat} (hd : 1 ≤ d)  {I : Nat → Nat → Int32} {E : Nat → Nat → Option Nat} {x1 : Int32} {r0 : (Nat → Int32)} (hf : f_X1_remove (I 475) x1 = some r0) : q_Ct g m_X1_remove d 0 0 [] [.ref 474, .int x1] (q_hp (t, r, m, z, N, ext, rx, L) I E) (fun o h' => o = .inl none ∧ h' = q_hp (t, r, m, z, N, ext, rx, L) (q_ws I [(475, r0)]) (q_ws E [])) := by
  rw [f_X1_remove] at hf
  refine q_Ct_of ok_X1_remove (Nat.le_of_ble_eq_true rfl) ?_ _ rfl rfl
  change q_J g m_X1_remove d 0 0 _ [] _ 0 0 (q_kc (t, r, m, z, N, ext, rx, L) I E 0 [some (.ref 474), some (.int x1)] [] [] [])
  refine q_blf 1 [] (a := q_kc (t, r, m, z, N, ext, rx, L) I E 10 [some (.ref 474), some (.int x1)] [] [] []) (b := q_kc (t, r, m, z, N, ext, rx, L) I E 2 [some (.ref 474), some (.int x1)] [] [] []) (P := x1 < 0) ok_X1_remove rfl q_cn (fun h1 => ?_) (fun h1 => ?_)
  · have hf := q_ip h1 hf
    cases hf
    exact q_krv ok_X1_remove rfl rfl (Nat.le_of_ble_eq_true rfl) (Nat.le_of_ble_eq_true rfl) ⟨rfl, q_hpe (q_fin [475] rfl) (q_fin [] rfl)⟩
  · have hf := q_in h1 hf
    refine q_blf 2 [] (a := q_kc (t, r, m, z, N, ext, rx, L) I E 10 [some (.ref 474), some (.int x1)] [] [] []) (b := q_kc (t, r, m, z, N, ext, rx, L) I E 5 [some (.ref 474), some (.int x1)] [] [] []) (P := (128 : Int32) ≤ x1) ok_X1_remove rfl q_cn (fun h2 => ?_) (fun h2 => ?_)
    · have hf := q_ip h2 hf
      cases hf
      exact q_krv ok_X1_remove rfl rfl (Nat.le_of_ble_eq_true rfl) (Nat.le_of_ble_eq_true rfl) ⟨rfl, q_hpe (q_fin [475] rfl) (q_fin [] rfl)⟩
    · have hf := q_in h2 hf
      obtain ⟨j3, hj3, hf⟩ := q_bd hf
      refine q_blk 5 [j3] (c' := q_kc (t, r, m, z, N, ext, rx, L) I E 10 [some (.ref 474), some (.int x1)] [] [(475, (q_up (I 475) j3 (0 : Int32)))] []) ok_X1_remove rfl (q_cc hj3 q_cn) ?_
      cases hf
      exact q_krv ok_X1_remove rfl rfl (Nat.le_of_ble_eq_true rfl) (Nat.le_of_ble_eq_true rfl) ⟨rfl, q_hpe (q_fin [475] rfl) (q_fin [] rfl)⟩
set_option maxHeartbeats 4000000 in
theorem ct_X1_copyTo_474 {g : q_G} {t : Nat} {r : Nat} {m : Nat} {z : Nat} {N : Nat} {ext : Nat → q_Sh} {rx : Nat → Nat → Option Nat} {L : Nat → Nat → Int64} {d : Nat} (hd : 1 ≤ d)  {I : Nat → Nat → Int32} {E : Nat → Nat → Option Nat} {x1 : Int32} {x2 : Int32} {r0 : (Nat → Int32) × (Nat → Int32)} (hf : f_X1_copyTo (I 476) (I 478) x1 x2 = some r0) : q_Ct g m_X1_copyTo d 0 0 [] [.ref 474, .int x1, .int x2] (q_hp (t, r, m, z, N, ext, rx, L) I E) (fun o h' => o = .inl none ∧ h' = q_hp (t, r, m, z, N, ext, rx, L) (q_ws I [(476, r0.1), (478, r0.2)]) (q_ws E [])) := by
  rw [f_X1_copyTo] at hf
  refine q_Ct_of ok_X1_copyTo (Nat.le_of_ble_eq_true rfl) ?_ _ rfl rfl
  change q_J g m_X1_copyTo d 0 0 _ [] _ 0 0 (q_kc (t, r, m, z, N, ext, rx, L) I E 0 [some (.ref 474), some (.int x1), some (.int x2)] [] [] [])
  refine q_blf 1 [] (a := q_kc (t, r, m, z, N, ext, rx, L) I E 18 [some (.ref 474), some (.int x1), some (.int x2)] [] [] []) (b := q_kc (t, r, m, z, N, ext, rx, L) I E 2 [some (.ref 474), some (.int x1), some (.int x2)] [] [] []) (P := x1 < 0) ok_X1_copyTo rfl q_cn (fun h1 => ?_) (fun h1 => ?_)
  · have hf := q_ip h1 hf
    cases hf
    exact q_krv ok_X1_copyTo rfl rfl (Nat.le_of_ble_eq_true rfl) (Nat.le_of_ble_eq_true rfl) ⟨rfl, q_hpe (q_fin [476, 478] rfl) (q_fin [] rfl)⟩
  · have hf := q_in h1 hf
    refine q_blf 2 [] (a := q_kc (t, r, m, z, N, ext, rx, L) I E 18 [some (.ref 474), some (.int x1), some (.int x2)] [] [] []) (b := q_kc (t, r, m, z, N, ext, rx, L) I E 5 [some (.ref 474), some (.int x1), some (.int x2)] [] [] []) (P := (128 : Int32) ≤ x1) ok_X1_copyTo rfl q_cn (fun h2 => ?_) (fun h2 => ?_)
    · have hf := q_ip h2 hf
      cases hf
      exact q_krv ok_X1_copyTo rfl rfl (Nat.le_of_ble_eq_true rfl) (Nat.le_of_ble_eq_true rfl) ⟨rfl, q_hpe (q_fin [476, 478] rfl) (q_fin [] rfl)⟩
    · have hf := q_in h2 hf
      obtain ⟨j3, hj3, hf⟩ := q_bd hf
      obtain ⟨j4, hj4, hf⟩ := q_bd hf
      obtain ⟨j5, hj5, hf⟩ := q_bd hf
      refine q_blk 13 [j3, j4, j5] (c' := q_kc (t, r, m, z, N, ext, rx, L) I E 18 [some (.ref 474), some (.int x1), some (.int x2)] [] [(476, (q_up (I 476) j3 x2)), (478, (q_up (I 478) j5 (((I 478) j4) + (1 : Int32))))] []) ok_X1_copyTo rfl (q_cc hj5 (q_cc hj4 (q_cc hj3 q_cn))) ?_
      cases hf
      exact q_krv ok_X1_copyTo rfl rfl (Nat.le_of_ble_eq_true rfl) (Nat.le_of_ble_eq_true rfl) ⟨rfl, q_hpe (q_fin [476, 478] rfl) (q_fin [] rfl)⟩
set_option maxHeartbeats 4000000 in
theorem ct_X1_promoteTo_474 {g : q_G} {t : Nat} {r : Nat} {m : Nat} {z : Nat} {N : Nat} {ext : Nat → q_Sh} {rx : Nat → Nat → Option Nat} {L : Nat → Nat → Int64} {d : Nat} (hd : 1 ≤ d)  {I : Nat → Nat → Int32} {E : Nat → Nat → Option Nat} {x1 : Int32} {x2 : Int32} {r0 : (Nat → Int32) × (Nat → Int32)} (hf : f_X1_promoteTo (I 475) (I 476) x1 x2 = some r0) : q_Ct g m_X1_promoteTo d 0 0 [] [.ref 474, .int x1, .int x2] (q_hp (t, r, m, z, N, ext, rx, L) I E) (fun o h' => o = .inl none ∧ h' = q_hp (t, r, m, z, N, ext, rx, L) (q_ws I [(475, r0.1), (476, r0.2)]) (q_ws E [])) := by
  rw [f_X1_promoteTo] at hf
  refine q_Ct_of ok_X1_promoteTo (Nat.le_of_ble_eq_true rfl) ?_ _ rfl rfl
  change q_J g m_X1_promoteTo d 0 0 _ [] _ 0 0 (q_kc (t, r, m, z, N, ext, rx, L) I E 0 [some (.ref 474), some (.int x1), some (.int x2)] [] [] [])
  refine q_blf 1 [] (a := q_kc (t, r, m, z, N, ext, rx, L) I E 15 [some (.ref 474), some (.int x1), some (.int x2)] [] [] []) (b := q_kc (t, r, m, z, N, ext, rx, L) I E 2 [some (.ref 474), some (.int x1), some (.int x2)] [] [] []) (P := x1 < 0) ok_X1_promoteTo rfl q_cn (fun h1 => ?_) (fun h1 => ?_)
  · have hf := q_ip h1 hf
    cases hf
    exact q_krv ok_X1_promoteTo rfl rfl (Nat.le_of_ble_eq_true rfl) (Nat.le_of_ble_eq_true rfl) ⟨rfl, q_hpe (q_fin [475, 476] rfl) (q_fin [] rfl)⟩
  · have hf := q_in h1 hf
    refine q_blf 2 [] (a := q_kc (t, r, m, z, N, ext, rx, L) I E 15 [some (.ref 474), some (.int x1), some (.int x2)] [] [] []) (b := q_kc (t, r, m, z, N, ext, rx, L) I E 5 [some (.ref 474), some (.int x1), some (.int x2)] [] [] []) (P := (128 : Int32) ≤ x1) ok_X1_promoteTo rfl q_cn (fun h2 => ?_) (fun h2 => ?_)
    · have hf := q_ip h2 hf
      cases hf
      exact q_krv ok_X1_promoteTo rfl rfl (Nat.le_of_ble_eq_true rfl) (Nat.le_of_ble_eq_true rfl) ⟨rfl, q_hpe (q_fin [475, 476] rfl) (q_fin [] rfl)⟩
    · have hf := q_in h2 hf
      obtain ⟨j3, hj3, hf⟩ := q_bd hf
      obtain ⟨j4, hj4, hf⟩ := q_bd hf
      refine q_blk 10 [j3, j4] (c' := q_kc (t, r, m, z, N, ext, rx, L) I E 15 [some (.ref 474), some (.int x1), some (.int x2)] [] [(475, (q_up (I 475) j4 (2 : Int32))), (476, (q_up (I 476) j3 x2))] []) ok_X1_promoteTo rfl (q_cc hj4 (q_cc hj3 q_cn)) ?_
      cases hf
      exact q_krv ok_X1_promoteTo rfl rfl (Nat.le_of_ble_eq_true rfl) (Nat.le_of_ble_eq_true rfl) ⟨rfl, q_hpe (q_fin [475, 476] rfl) (q_fin [] rfl)⟩
