set_option maxHeartbeats 4000000 in
theorem ct_X4_has_483 {g : q_G} {t : Nat} {r : Nat} {m : Nat} {z : Nat} {N : Nat} {ext : Nat → q_Sh} {rx : Nat → Nat → Option Nat} {L : Nat → Nat → Int64} {d : Nat} (hd : 1 ≤ d)  {I : Nat → Nat → Int32} {E : Nat → Nat → Option Nat} {x1 : Int32} {r0 : Bool} (hf : f_X4_has (I 485) x1 = some r0) : q_Ct g m_X4_has d 0 0 [] [.ref 483, .int x1] (q_hp (t, r, m, z, N, ext, rx, L) I E) (fun o h' => o = .inl (some (.int (q_bz r0))) ∧ h' = q_hp (t, r, m, z, N, ext, rx, L) (q_ws I []) (q_ws E [])) := by
  rw [f_X4_has] at hf
  refine q_Ct_of ok_X4_has (Nat.le_of_ble_eq_true rfl) ?_ _ rfl rfl
  change q_J g m_X4_has d 0 0 _ [] _ 0 0 (q_kc (t, r, m, z, N, ext, rx, L) I E 0 [some (.ref 483), some (.int x1)] [] [] [])
  refine q_blf 1 [] (a := q_kc (t, r, m, z, N, ext, rx, L) I E 13 [some (.ref 483), some (.int x1)] [] [] []) (b := q_kc (t, r, m, z, N, ext, rx, L) I E 2 [some (.ref 483), some (.int x1)] [] [] []) (P := x1 < 0) ok_X4_has rfl q_cn (fun h1 => ?_) (fun h1 => ?_)
  · have hf := q_ip h1 hf
    refine q_blk 1 [] (c' := q_kc (t, r, m, z, N, ext, rx, L) I E 14 [some (.ref 483), some (.int x1)] [.int (0 : Int32)] [] []) ok_X4_has rfl q_cn ?_
    cases hf
    exact q_kri ok_X4_has rfl rfl rfl (Nat.le_of_ble_eq_true rfl) (Nat.le_of_ble_eq_true rfl) ⟨rfl, q_hpe (q_pdw [] rfl rfl) (q_pdw [] rfl rfl)⟩
  · have hf := q_in h1 hf
    refine q_blf 2 [] (a := q_kc (t, r, m, z, N, ext, rx, L) I E 13 [some (.ref 483), some (.int x1)] [] [] []) (b := q_kc (t, r, m, z, N, ext, rx, L) I E 5 [some (.ref 483), some (.int x1)] [] [] []) (P := (128 : Int32) ≤ x1) ok_X4_has rfl q_cn (fun h2 => ?_) (fun h2 => ?_)
    · have hf := q_ip h2 hf
      refine q_blk 1 [] (c' := q_kc (t, r, m, z, N, ext, rx, L) I E 14 [some (.ref 483), some (.int x1)] [.int (0 : Int32)] [] []) ok_X4_has rfl q_cn ?_
      cases hf
      exact q_kri ok_X4_has rfl rfl rfl (Nat.le_of_ble_eq_true rfl) (Nat.le_of_ble_eq_true rfl) ⟨rfl, q_hpe (q_pdw [] rfl rfl) (q_pdw [] rfl rfl)⟩
    · have hf := q_in h2 hf
      obtain ⟨j3, hj3, hf⟩ := q_bd hf
      refine q_blf 5 [j3] (a := q_kc (t, r, m, z, N, ext, rx, L) I E 13 [some (.ref 483), some (.int x1)] [] [] []) (b := q_kc (t, r, m, z, N, ext, rx, L) I E 11 [some (.ref 483), some (.int x1)] [] [] []) (P := ((I 485) j3) = (-1 : Int32)) ok_X4_has rfl (q_cc hj3 q_cn) (fun h4 => ?_) (fun h4 => ?_)
      · have hf := q_ip h4 hf
        refine q_blk 1 [] (c' := q_kc (t, r, m, z, N, ext, rx, L) I E 14 [some (.ref 483), some (.int x1)] [.int (0 : Int32)] [] []) ok_X4_has rfl q_cn ?_
        cases hf
        exact q_kri ok_X4_has rfl rfl rfl (Nat.le_of_ble_eq_true rfl) (Nat.le_of_ble_eq_true rfl) ⟨rfl, q_hpe (q_pdw [] rfl rfl) (q_pdw [] rfl rfl)⟩
      · have hf := q_in h4 hf
        refine q_blk 2 [] (c' := q_kc (t, r, m, z, N, ext, rx, L) I E 14 [some (.ref 483), some (.int x1)] [.int (1 : Int32)] [] []) ok_X4_has rfl q_cn ?_
        cases hf
        exact q_kri ok_X4_has rfl rfl rfl (Nat.le_of_ble_eq_true rfl) (Nat.le_of_ble_eq_true rfl) ⟨rfl, q_hpe (q_pdw [] rfl rfl) (q_pdw [] rfl rfl)⟩
set_option maxHeartbeats 4000000 in
theorem ct_X1_hasRope_474 {g : q_G} {t : Nat} {r : Nat} {m : Nat} {z : Nat} {N : Nat} {ext : Nat → q_Sh} {rx : Nat → Nat → Option Nat} {L : Nat → Nat → Int64} {d : Nat} (hd : 1 ≤ d)  {I : Nat → Nat → Int32} {E : Nat → Nat → Option Nat} {x1 : Int32} {x2 : Int32} {r0 : Bool} (hf : f_X1_hasRope (I 479) x1 x2 = some r0) : q_Ct g m_X1_hasRope d 0 0 [] [.ref 474, .int x1, .int x2] (q_hp (t, r, m, z, N, ext, rx, L) I E) (fun o h' => o = .inl (some (.int (q_bz r0))) ∧ h' = q_hp (t, r, m, z, N, ext, rx, L) (q_ws I []) (q_ws E [])) := by
  rw [f_X1_hasRope] at hf
  refine q_Ct_of ok_X1_hasRope (Nat.le_of_ble_eq_true rfl) ?_ _ rfl rfl
  change q_J g m_X1_hasRope d 0 0 _ [] _ 0 0 (q_kc (t, r, m, z, N, ext, rx, L) I E 0 [some (.ref 474), some (.int x1), some (.int x2)] [] [] [])
  refine q_blf 1 [] (a := q_kc (t, r, m, z, N, ext, rx, L) I E 18 [some (.ref 474), some (.int x1), some (.int x2)] [] [] []) (b := q_kc (t, r, m, z, N, ext, rx, L) I E 2 [some (.ref 474), some (.int x1), some (.int x2)] [] [] []) (P := x1 < 0) ok_X1_hasRope rfl q_cn (fun h1 => ?_) (fun h1 => ?_)
  · have hf := q_ip h1 hf
    refine q_blk 1 [] (c' := q_kc (t, r, m, z, N, ext, rx, L) I E 19 [some (.ref 474), some (.int x1), some (.int x2)] [.int (0 : Int32)] [] []) ok_X1_hasRope rfl q_cn ?_
    cases hf
    exact q_kri ok_X1_hasRope rfl rfl rfl (Nat.le_of_ble_eq_true rfl) (Nat.le_of_ble_eq_true rfl) ⟨rfl, q_hpe (q_pdw [] rfl rfl) (q_pdw [] rfl rfl)⟩
  · have hf := q_in h1 hf
    refine q_blf 2 [] (a := q_kc (t, r, m, z, N, ext, rx, L) I E 18 [some (.ref 474), some (.int x1), some (.int x2)] [] [] []) (b := q_kc (t, r, m, z, N, ext, rx, L) I E 5 [some (.ref 474), some (.int x1), some (.int x2)] [] [] []) (P := (128 : Int32) ≤ x1) ok_X1_hasRope rfl q_cn (fun h2 => ?_) (fun h2 => ?_)
    · have hf := q_ip h2 hf
      refine q_blk 1 [] (c' := q_kc (t, r, m, z, N, ext, rx, L) I E 19 [some (.ref 474), some (.int x1), some (.int x2)] [.int (0 : Int32)] [] []) ok_X1_hasRope rfl q_cn ?_
      cases hf
      exact q_kri ok_X1_hasRope rfl rfl rfl (Nat.le_of_ble_eq_true rfl) (Nat.le_of_ble_eq_true rfl) ⟨rfl, q_hpe (q_pdw [] rfl rfl) (q_pdw [] rfl rfl)⟩
    · have hf := q_in h2 hf
      refine q_blf 1 [] (a := q_kc (t, r, m, z, N, ext, rx, L) I E 18 [some (.ref 474), some (.int x1), some (.int x2)] [] [] []) (b := q_kc (t, r, m, z, N, ext, rx, L) I E 7 [some (.ref 474), some (.int x1), some (.int x2)] [] [] []) (P := x2 < 0) ok_X1_hasRope rfl q_cn (fun h3 => ?_) (fun h3 => ?_)
      · have hf := q_ip h3 hf
        refine q_blk 1 [] (c' := q_kc (t, r, m, z, N, ext, rx, L) I E 19 [some (.ref 474), some (.int x1), some (.int x2)] [.int (0 : Int32)] [] []) ok_X1_hasRope rfl q_cn ?_
        cases hf
        exact q_kri ok_X1_hasRope rfl rfl rfl (Nat.le_of_ble_eq_true rfl) (Nat.le_of_ble_eq_true rfl) ⟨rfl, q_hpe (q_pdw [] rfl rfl) (q_pdw [] rfl rfl)⟩
      · have hf := q_in h3 hf
        refine q_blf 2 [] (a := q_kc (t, r, m, z, N, ext, rx, L) I E 18 [some (.ref 474), some (.int x1), some (.int x2)] [] [] []) (b := q_kc (t, r, m, z, N, ext, rx, L) I E 10 [some (.ref 474), some (.int x1), some (.int x2)] [] [] []) (P := (3 : Int32) ≤ x2) ok_X1_hasRope rfl q_cn (fun h4 => ?_) (fun h4 => ?_)
        · have hf := q_ip h4 hf
          refine q_blk 1 [] (c' := q_kc (t, r, m, z, N, ext, rx, L) I E 19 [some (.ref 474), some (.int x1), some (.int x2)] [.int (0 : Int32)] [] []) ok_X1_hasRope rfl q_cn ?_
          cases hf
          exact q_kri ok_X1_hasRope rfl rfl rfl (Nat.le_of_ble_eq_true rfl) (Nat.le_of_ble_eq_true rfl) ⟨rfl, q_hpe (q_pdw [] rfl rfl) (q_pdw [] rfl rfl)⟩
        · have hf := q_in h4 hf
          obtain ⟨j5, hj5, hf⟩ := q_bd hf
          refine q_blf 5 [j5] (a := q_kc (t, r, m, z, N, ext, rx, L) I E 18 [some (.ref 474), some (.int x1), some (.int x2)] [] [] []) (b := q_kc (t, r, m, z, N, ext, rx, L) I E 16 [some (.ref 474), some (.int x1), some (.int x2)] [] [] []) (P := ((I 479) j5) ≤ x2) ok_X1_hasRope rfl (q_cc hj5 q_cn) (fun h6 => ?_) (fun h6 => ?_)
          · have hf := q_ip h6 hf
            refine q_blk 1 [] (c' := q_kc (t, r, m, z, N, ext, rx, L) I E 19 [some (.ref 474), some (.int x1), some (.int x2)] [.int (0 : Int32)] [] []) ok_X1_hasRope rfl q_cn ?_
            cases hf
            exact q_kri ok_X1_hasRope rfl rfl rfl (Nat.le_of_ble_eq_true rfl) (Nat.le_of_ble_eq_true rfl) ⟨rfl, q_hpe (q_pdw [] rfl rfl) (q_pdw [] rfl rfl)⟩
          · have hf := q_in h6 hf
            refine q_blk 2 [] (c' := q_kc (t, r, m, z, N, ext, rx, L) I E 19 [some (.ref 474), some (.int x1), some (.int x2)] [.int (1 : Int32)] [] []) ok_X1_hasRope rfl q_cn ?_
            cases hf
            exact q_kri ok_X1_hasRope rfl rfl rfl (Nat.le_of_ble_eq_true rfl) (Nat.le_of_ble_eq_true rfl) ⟨rfl, q_hpe (q_pdw [] rfl rfl) (q_pdw [] rfl rfl)⟩
set_option maxHeartbeats 4000000 in
theorem ct_X1_lead_474 {g : q_G} {t : Nat} {r : Nat} {m : Nat} {z : Nat} {N : Nat} {ext : Nat → q_Sh} {rx : Nat → Nat → Option Nat} {L : Nat → Nat → Int64} {d : Nat} (hd : 2 ≤ d)  {I : Nat → Nat → Int32} {E : Nat → Nat → Option Nat} {x1 : Int32} {x2 : Int32} {r0 : Int32} (hf : f_X1_lead (I 479) (I 480) x1 x2 = some r0) : q_Ct g m_X1_lead d 0 0 [] [.ref 474, .int x1, .int x2] (q_hp (t, r, m, z, N, ext, rx, L) I E) (fun o h' => o = .inl (some (.int r0)) ∧ h' = q_hp (t, r, m, z, N, ext, rx, L) (q_ws I []) (q_ws E [])) := by
  rw [f_X1_lead] at hf
  refine q_Ct_of ok_X1_lead (Nat.le_of_ble_eq_true rfl) ?_ _ rfl rfl
  change q_J g m_X1_lead d 0 0 _ [] _ 0 0 (q_kc (t, r, m, z, N, ext, rx, L) I E 0 [some (.ref 474), some (.int x1), some (.int x2)] [] [] [])
  refine q_blk 3 [] (c' := q_kc (t, r, m, z, N, ext, rx, L) I E 3 [some (.ref 474), some (.int x1), some (.int x2)] [.int x2, .int x1, .ref 474] [] []) ok_X1_lead rfl q_cn ?_
  obtain ⟨r1, hr1, hf⟩ := q_bd hf
  refine q_kV (M2 := m_X1_hasRope) (As := [.int x1, .int x2]) (b := 474) (v2 := some (.int (q_bz r1))) ok_X1_lead ok_X1_hasRope cv_X1_hasRope (ct_X1_hasRope_474 (d := 1) (Nat.le_refl _) hr1) rfl rfl (Or.inl rfl) rfl rfl rfl rfl (Nat.le_trans (Nat.le_of_ble_eq_true rfl) hd) (Nat.le_of_ble_eq_true rfl) (Nat.le_of_ble_eq_true rfl) (Nat.le_of_ble_eq_true rfl) (fun x hx => absurd hx List.not_mem_nil) (q_nmL0 _) (q_nmS0 _) rfl (pos' := 4) (st' := [.int (q_bz r1)]) (lI' := []) (lE' := []) rfl rfl rfl rfl ?_
  refine q_blf 0 [] (a := q_kc (t, r, m, z, N, ext, rx, L) I E 14 [some (.ref 474), some (.int x1), some (.int x2)] [] [] []) (b := q_kc (t, r, m, z, N, ext, rx, L) I E 5 [some (.ref 474), some (.int x1), some (.int x2)] [] [] []) (P := (q_bz r1) = 0) ok_X1_lead rfl q_cn (fun h2 => ?_) (fun h2 => ?_)
  · have hf := q_ip h2 hf
    refine q_blk 1 [] (c' := q_kc (t, r, m, z, N, ext, rx, L) I E 15 [some (.ref 474), some (.int x1), some (.int x2)] [.int (-1 : Int32)] [] []) ok_X1_lead rfl q_cn ?_
    cases hf
    exact q_kri ok_X1_lead rfl rfl rfl (Nat.le_of_ble_eq_true rfl) (Nat.le_of_ble_eq_true rfl) ⟨rfl, q_hpe (q_pdw [] rfl rfl) (q_pdw [] rfl rfl)⟩
  · have hf := q_in h2 hf
    obtain ⟨j3, hj3, hf⟩ := q_bd hf
    refine q_blk 9 [j3] (c' := q_kc (t, r, m, z, N, ext, rx, L) I E 15 [some (.ref 474), some (.int x1), some (.int x2)] [.int ((I 480) j3)] [] []) ok_X1_lead rfl (q_cc hj3 q_cn) ?_
    cases hf
    exact q_kri ok_X1_lead rfl rfl rfl (Nat.le_of_ble_eq_true rfl) (Nat.le_of_ble_eq_true rfl) ⟨rfl, q_hpe (q_pdw [] rfl rfl) (q_pdw [] rfl rfl)⟩
set_option maxHeartbeats 4000000 in
theorem ct_X4_length_483 {g : q_G} {t : Nat} {r : Nat} {m : Nat} {z : Nat} {N : Nat} {ext : Nat → q_Sh} {rx : Nat → Nat → Option Nat} {L : Nat → Nat → Int64} {d : Nat} (hd : 1 ≤ d)  {I : Nat → Nat → Int32} {E : Nat → Nat → Option Nat} {r0 : Int32} (hf : f_X4_length (I 483) = some r0) : q_Ct g m_X4_length d 0 0 [] [.ref 483] (q_hp (t, r, m, z, N, ext, rx, L) I E) (fun o h' => o = .inl (some (.int r0)) ∧ h' = q_hp (t, r, m, z, N, ext, rx, L) (q_ws I []) (q_ws E [])) := by
  rw [f_X4_length] at hf
  refine q_Ct_of ok_X4_length (Nat.le_of_ble_eq_true rfl) ?_ _ rfl rfl
  change q_J g m_X4_length d 0 0 _ [] _ 0 0 (q_kc (t, r, m, z, N, ext, rx, L) I E 0 [some (.ref 483)] [] [] [])
  refine q_blk 2 [] (c' := q_kc (t, r, m, z, N, ext, rx, L) I E 2 [some (.ref 483)] [.int ((I 483) 2)] [] []) ok_X4_length rfl q_cn ?_
  cases hf
  exact q_kri ok_X4_length rfl rfl rfl (Nat.le_of_ble_eq_true rfl) (Nat.le_of_ble_eq_true rfl) ⟨rfl, q_hpe (q_pdw [] rfl rfl) (q_pdw [] rfl rfl)⟩
set_option maxHeartbeats 4000000 in
theorem ct_X4_at_483 {g : q_G} {t : Nat} {r : Nat} {m : Nat} {z : Nat} {N : Nat} {ext : Nat → q_Sh} {rx : Nat → Nat → Option Nat} {L : Nat → Nat → Int64} {d : Nat} (hd : 1 ≤ d)  {I : Nat → Nat → Int32} {E : Nat → Nat → Option Nat} {x1 : Int32} {r0 : Int32} (hf : f_X4_at (I 483) (I 484) x1 = some r0) : q_Ct g m_X4_at d 0 0 [] [.ref 483, .int x1] (q_hp (t, r, m, z, N, ext, rx, L) I E) (fun o h' => o = .inl (some (.int r0)) ∧ h' = q_hp (t, r, m, z, N, ext, rx, L) (q_ws I []) (q_ws E [])) := by
  rw [f_X4_at] at hf
  refine q_Ct_of ok_X4_at (Nat.le_of_ble_eq_true rfl) ?_ _ rfl rfl
  change q_J g m_X4_at d 0 0 _ [] _ 0 0 (q_kc (t, r, m, z, N, ext, rx, L) I E 0 [some (.ref 483), some (.int x1)] [] [] [])
  refine q_blf 1 [] (a := q_kc (t, r, m, z, N, ext, rx, L) I E 14 [some (.ref 483), some (.int x1)] [] [] []) (b := q_kc (t, r, m, z, N, ext, rx, L) I E 2 [some (.ref 483), some (.int x1)] [] [] []) (P := x1 < 0) ok_X4_at rfl q_cn (fun h1 => ?_) (fun h1 => ?_)
  · have hf := q_ip h1 hf
    refine q_blk 1 [] (c' := q_kc (t, r, m, z, N, ext, rx, L) I E 15 [some (.ref 483), some (.int x1)] [.int (-1 : Int32)] [] []) ok_X4_at rfl q_cn ?_
    cases hf
    exact q_kri ok_X4_at rfl rfl rfl (Nat.le_of_ble_eq_true rfl) (Nat.le_of_ble_eq_true rfl) ⟨rfl, q_hpe (q_pdw [] rfl rfl) (q_pdw [] rfl rfl)⟩
  · have hf := q_in h1 hf
    refine q_blf 3 [] (a := q_kc (t, r, m, z, N, ext, rx, L) I E 14 [some (.ref 483), some (.int x1)] [] [] []) (b := q_kc (t, r, m, z, N, ext, rx, L) I E 6 [some (.ref 483), some (.int x1)] [] [] []) (P := ((I 483) 2) ≤ x1) ok_X4_at rfl q_cn (fun h2 => ?_) (fun h2 => ?_)
    · have hf := q_ip h2 hf
      refine q_blk 1 [] (c' := q_kc (t, r, m, z, N, ext, rx, L) I E 15 [some (.ref 483), some (.int x1)] [.int (-1 : Int32)] [] []) ok_X4_at rfl q_cn ?_
      cases hf
      exact q_kri ok_X4_at rfl rfl rfl (Nat.le_of_ble_eq_true rfl) (Nat.le_of_ble_eq_true rfl) ⟨rfl, q_hpe (q_pdw [] rfl rfl) (q_pdw [] rfl rfl)⟩
    · have hf := q_in h2 hf
      refine q_blf 2 [] (a := q_kc (t, r, m, z, N, ext, rx, L) I E 14 [some (.ref 483), some (.int x1)] [] [] []) (b := q_kc (t, r, m, z, N, ext, rx, L) I E 9 [some (.ref 483), some (.int x1)] [] [] []) (P := (128 : Int32) ≤ x1) ok_X4_at rfl q_cn (fun h3 => ?_) (fun h3 => ?_)
      · have hf := q_ip h3 hf
        refine q_blk 1 [] (c' := q_kc (t, r, m, z, N, ext, rx, L) I E 15 [some (.ref 483), some (.int x1)] [.int (-1 : Int32)] [] []) ok_X4_at rfl q_cn ?_
        cases hf
        exact q_kri ok_X4_at rfl rfl rfl (Nat.le_of_ble_eq_true rfl) (Nat.le_of_ble_eq_true rfl) ⟨rfl, q_hpe (q_pdw [] rfl rfl) (q_pdw [] rfl rfl)⟩
      · have hf := q_in h3 hf
        obtain ⟨j4, hj4, hf⟩ := q_bd hf
        refine q_blk 5 [j4] (c' := q_kc (t, r, m, z, N, ext, rx, L) I E 15 [some (.ref 483), some (.int x1)] [.int ((I 484) j4)] [] []) ok_X4_at rfl (q_cc hj4 q_cn) ?_
        cases hf
        exact q_kri ok_X4_at rfl rfl rfl (Nat.le_of_ble_eq_true rfl) (Nat.le_of_ble_eq_true rfl) ⟨rfl, q_hpe (q_pdw [] rfl rfl) (q_pdw [] rfl rfl)⟩
set_option maxHeartbeats 4000000 in
theorem ct_X1_remove_474 {g : q_G} {t : Nat} {r : Nat} {m : Nat} {z : Nat} {N : Nat} {ext : Nat → q_Sh} {rx : Nat → Nat → Option Nat} {L : Nat → Nat → Int64} {d : Nat} (hd : 1 ≤ d)  {I : Nat → Nat → Int32} {E : Nat → Nat → Option Nat} {x1 : Int32} {r0 : (Nat → Int32)} (hf : f_X1_remove (I 475) x1 = some r0) : q_Ct g m_X1_remove d 0 0 [] [.ref 474, .int x1] (q_hp (t, r, m, z, N, ext, rx, L) I E) (fun o h' => o = .inl none ∧ h' = q_hp (t, r, m, z, N, ext, rx, L) (q_ws I [(475, r0)]) (q_ws E [])) := by
  rw [f_X1_remove] at hf
  refine q_Ct_of ok_X1_remove (Nat.le_of_ble_eq_true rfl) ?_ _ rfl rfl
  change q_J g m_X1_remove d 0 0 _ [] _ 0 0 (q_kc (t, r, m, z, N, ext, rx, L) I E 0 [some (.ref 474), some (.int x1)] [] [] [])
  refine q_blf 1 [] (a := q_kc (t, r, m, z, N, ext, rx, L) I E 10 [some (.ref 474), some (.int x1)] [] [] []) (b := q_kc (t, r, m, z, N, ext, rx, L) I E 2 [some (.ref 474), some (.int x1)] [] [] []) (P := x1 < 0) ok_X1_remove rfl q_cn (fun h1 => ?_) (fun h1 => ?_)
  · have hf := q_ip h1 hf
    cases hf
    exact q_krv ok_X1_remove rfl rfl (Nat.le_of_ble_eq_true rfl) (Nat.le_of_ble_eq_true rfl) ⟨rfl, q_hpe (q_pdw [475] rfl rfl) (q_pdw [] rfl rfl)⟩
  · have hf := q_in h1 hf
    refine q_blf 2 [] (a := q_kc (t, r, m, z, N, ext, rx, L) I E 10 [some (.ref 474), some (.int x1)] [] [] []) (b := q_kc (t, r, m, z, N, ext, rx, L) I E 5 [some (.ref 474), some (.int x1)] [] [] []) (P := (128 : Int32) ≤ x1) ok_X1_remove rfl q_cn (fun h2 => ?_) (fun h2 => ?_)
    · have hf := q_ip h2 hf
      cases hf
      exact q_krv ok_X1_remove rfl rfl (Nat.le_of_ble_eq_true rfl) (Nat.le_of_ble_eq_true rfl) ⟨rfl, q_hpe (q_pdw [475] rfl rfl) (q_pdw [] rfl rfl)⟩
    · have hf := q_in h2 hf
      obtain ⟨j3, hj3, hf⟩ := q_bd hf
      refine q_blk 5 [j3] (c' := q_kc (t, r, m, z, N, ext, rx, L) I E 10 [some (.ref 474), some (.int x1)] [] [(475, (q_up (I 475) j3 (0 : Int32)))] []) ok_X1_remove rfl (q_cc hj3 q_cn) ?_
      cases hf
      exact q_krv ok_X1_remove rfl rfl (Nat.le_of_ble_eq_true rfl) (Nat.le_of_ble_eq_true rfl) ⟨rfl, q_hpe (q_pdw [475] rfl rfl) (q_pdw [] rfl rfl)⟩
set_option maxHeartbeats 4000000 in
theorem lp_X2_loseRest_L4_473_488 {g : q_G} {d mc ms : Nat} {h0 : q_H} {Q : (Option Value ⊕ String) → q_H → Prop} {k n : Nat} {r : Nat} {m : Nat} {z : Nat} {N : Nat} {ext : Nat → q_Sh} {rx : Nat → Nat → Option Nat} {L : Nat → Nat → Int64} (hd : 2 ≤ d) (hk : k ≤ mc) (hn : n ≤ ms)  {v2 : Int32} : ∀ (fu : Nat) {I : Nat → Nat → Int32} {E : Nat → Nat → Option Nat} {v3 : Int32} {v4 : Int32} {r0 : Int32 × (Nat → Int32)} (hf : f_X2_loseRest_L4 (I 485) (I 488) v2 fu (I 475) v3 v4 = some r0) (hK0 : q_J g m_X2_loseRest d mc ms h0 [] Q k n (q_kc (0, r, m, z, N, ext, rx, L) I E 27 [some (.ref 473), none, none, some (.int r0.1), none] [] [(475, r0.2)] [])), q_J g m_X2_loseRest d mc ms h0 [] Q k n (4, [some (.ref 473), some (.ref 488), some (.int v2), some (.int v3), some (.int v4)], [], q_hp (0, r, m, z, N, ext, rx, L) I E) := by
  intro fu
  induction fu with
  | zero =>
    intro I E v3 v4 r0 hf hK0
    rw [f_X2_loseRest_L4] at hf
    cases hf
  | succ fu ih =>
    intro I E v3 v4 r0 hf hK0
    rw [f_X2_loseRest_L4] at hf
    change q_J g m_X2_loseRest d mc ms h0 [] Q k n (q_kc (0, r, m, z, N, ext, rx, L) I E 4 [some (.ref 473), some (.ref 488), some (.int v2), some (.int v3), some (.int v4)] [] [] [])
    refine q_blf 2 [] (a := q_kc (0, r, m, z, N, ext, rx, L) I E 27 [some (.ref 473), some (.ref 488), some (.int v2), some (.int v3), some (.int v4)] [] [] []) (b := q_kc (0, r, m, z, N, ext, rx, L) I E 7 [some (.ref 473), some (.ref 488), some (.int v2), some (.int v3), some (.int v4)] [] [] []) (P := v2 ≤ v4) ok_X2_loseRest rfl q_cn (fun h1 => ?_) (fun h1 => ?_)
    · have hf := q_ip h1 hf
      refine q_less (ls' := [some (.ref 473), none, none, some (.int v3), none]) (q_sb2 (q_sb1 (q_sb1 (q_sb2 (q_sb1 q_sb0))))) ?_
      cases hf
      exact q_Jpad (q_pdw [475] rfl rfl) (q_pdw [] rfl rfl) hK0
    · have hf := q_in h1 hf
      refine q_blf 3 [] (a := q_kc (0, r, m, z, N, ext, rx, L) I E 27 [some (.ref 473), some (.ref 488), some (.int v2), some (.int v3), some (.int v4)] [] [] []) (b := q_kc (0, r, m, z, N, ext, rx, L) I E 11 [some (.ref 473), some (.ref 488), some (.int v2), some (.int v3), some (.int v4)] [] [] []) (P := (nI 64) ≤ v4) ok_X2_loseRest rfl q_cn (fun h2 => ?_) (fun h2 => ?_)
      · have hf := q_ip h2 hf
        refine q_less (ls' := [some (.ref 473), none, none, some (.int v3), none]) (q_sb2 (q_sb1 (q_sb1 (q_sb2 (q_sb1 q_sb0))))) ?_
        cases hf
        exact q_Jpad (q_pdw [475] rfl rfl) (q_pdw [] rfl rfl) hK0
      · have hf := q_in h2 hf
        obtain ⟨j3, hj3, hf⟩ := q_bd hf
        refine q_blk 5 [j3] (c' := q_kc (0, r, m, z, N, ext, rx, L) I E 16 [some (.ref 473), some (.ref 488), some (.int v2), some (.int v3), some (.int v4)] [.int ((I 488) j3), .ref 483] [] []) ok_X2_loseRest rfl (q_cc hj3 q_cn) ?_
        obtain ⟨r4, hr4, hf⟩ := q_bd hf
        refine q_kV (M2 := m_X4_has) (As := [.int ((I 488) j3)]) (b := 483) (v2 := some (.int (q_bz r4))) ok_X2_loseRest ok_X4_has cv_X4_has (ct_X4_has_483 (d := 1) (Nat.le_refl _) hr4) rfl rfl (Or.inl rfl) rfl rfl rfl rfl (Nat.le_trans (Nat.le_of_ble_eq_true rfl) hd) hk hn (Nat.le_of_ble_eq_true rfl) (fun x hx => absurd hx List.not_mem_nil) (q_nmL0 _) (q_nmS0 _) rfl (pos' := 17) (st' := [.int (q_bz r4)]) (lI' := []) (lE' := []) rfl rfl rfl rfl ?_
        refine q_blf 0 [] (a := q_kc (0, r, m, z, N, ext, rx, L) I E 25 [some (.ref 473), some (.ref 488), some (.int v2), some (.int v3), some (.int v4)] [] [] []) (b := q_kc (0, r, m, z, N, ext, rx, L) I E 18 [some (.ref 473), some (.ref 488), some (.int v2), some (.int v3), some (.int v4)] [] [] []) (P := ¬ (q_bz r4) = 0) ok_X2_loseRest rfl q_cn (fun h5 => ?_) (fun h5 => ?_)
        · have hf := q_ip h5 hf
          refine q_blk 2 [] (c' := q_kc (0, r, m, z, N, ext, rx, L) I E 4 [some (.ref 473), some (.ref 488), some (.int v2), some (.int v3), some (.int (v4 + 1))] [] [] []) ok_X2_loseRest rfl q_cn ?_
          exact ih (I := q_ws I []) (E := q_ws E []) hf (q_Jmrg (q_mgw rfl rfl) (q_mgw rfl rfl) hK0)
        · have hf := q_in h5 hf
          obtain ⟨j6, hj6, hf⟩ := q_bd hf
          refine q_blk 5 [j6] (c' := q_kc (0, r, m, z, N, ext, rx, L) I E 23 [some (.ref 473), some (.ref 488), some (.int v2), some (.int v3), some (.int v4)] [.int ((I 488) j6), .ref 474] [] []) ok_X2_loseRest rfl (q_cc hj6 q_cn) ?_
          obtain ⟨r7, hr7, hf⟩ := q_bd hf
          refine q_kV (M2 := m_X1_remove) (As := [.int ((I 488) j6)]) (b := 474) (v2 := none) ok_X2_loseRest ok_X1_remove cv_X1_remove (ct_X1_remove_474 (d := 1) (Nat.le_refl _) hr7) rfl rfl (Or.inl rfl) rfl rfl rfl rfl (Nat.le_trans (Nat.le_of_ble_eq_true rfl) hd) hk hn (Nat.le_of_ble_eq_true rfl) (fun x hx => absurd hx List.not_mem_nil) (q_nmL0 _) (q_nmS0 _) rfl (pos' := 24) (st' := []) (lI' := [(475, r7)]) (lE' := []) rfl rfl (q_mgw rfl rfl) rfl ?_
          refine q_blk 3 [] (c' := q_kc (0, r, m, z, N, ext, rx, L) I E 4 [some (.ref 473), some (.ref 488), some (.int v2), some (.int (v3 + 1)), some (.int (v4 + 1))] [] [(475, r7)] []) ok_X2_loseRest rfl q_cn ?_
          exact ih (I := q_ws I [(475, r7)]) (E := q_ws E []) hf (q_Jmrg (q_mgw rfl rfl) (q_mgw rfl rfl) hK0)
set_option maxHeartbeats 4000000 in
theorem ct_X2_loseRest_473_488 {g : q_G} {r : Nat} {m : Nat} {z : Nat} {N : Nat} {ext : Nat → q_Sh} {rx : Nat → Nat → Option Nat} {L : Nat → Nat → Int64} {d : Nat} (hd : 2 ≤ d)  {I : Nat → Nat → Int32} {E : Nat → Nat → Option Nat} {x2 : Int32} {r0 : Int32 × (Nat → Int32) × (Nat → Int32)} (hf : f_X2_loseRest (I 473) (I 475) (I 485) (I 488) x2 = some r0) : q_Ct g m_X2_loseRest d 0 0 [] [.ref 473, .ref 488, .int x2] (q_hp (0, r, m, z, N, ext, rx, L) I E) (fun o h' => o = .inl (some (.int r0.1)) ∧ h' = q_hp (0, r, m, z, N, ext, rx, L) (q_ws I [(473, r0.2.1), (475, r0.2.2)]) (q_ws E [])) := by
  rw [f_X2_loseRest] at hf
  refine q_Ct_of ok_X2_loseRest (Nat.le_of_ble_eq_true rfl) ?_ _ rfl rfl
  change q_J g m_X2_loseRest d 0 0 _ [] _ 0 0 (q_kc (0, r, m, z, N, ext, rx, L) I E 0 [some (.ref 473), some (.ref 488), some (.int x2), none, none] [] [] [])
  refine q_blk 4 [] (c' := q_kc (0, r, m, z, N, ext, rx, L) I E 4 [some (.ref 473), some (.ref 488), some (.int x2), some (.int (0 : Int32)), some (.int (0 : Int32))] [] [] []) ok_X2_loseRest rfl q_cn ?_
  obtain ⟨r8, hr8, hf⟩ := q_bd hf
  refine lp_X2_loseRest_L4_473_488 (I := q_ws I []) (E := q_ws E []) hd (Nat.le_of_ble_eq_true rfl) (Nat.le_of_ble_eq_true rfl) 4096 hr8 ?_
  refine q_Jmrg (lI' := [(475, r8.2)]) (lE' := []) (q_mgw rfl rfl) (q_mgw rfl rfl) ?_
  refine q_blk 7 [] (c' := q_kc (0, r, m, z, N, ext, rx, L) I E 34 [some (.ref 473), none, none, some (.int r8.1), none] [.int r8.1] [(473, (q_up (I 473) 14 (((I 473) 14) + r8.1))), (475, r8.2)] []) ok_X2_loseRest rfl q_cn ?_
  cases hf
  exact q_kri ok_X2_loseRest rfl rfl rfl (Nat.le_of_ble_eq_true rfl) (Nat.le_of_ble_eq_true rfl) ⟨rfl, q_hpe (q_pdw [473, 475] rfl rfl) (q_pdw [] rfl rfl)⟩
set_option maxHeartbeats 4000000 in
theorem lp_X2_copyHalf_L36_473 {g : q_G} {d mc ms : Nat} {h0 : q_H} {Q : (Option Value ⊕ String) → q_H → Prop} {k n : Nat} {r : Nat} {m : Nat} {z : Nat} {N : Nat} {ext : Nat → q_Sh} {rx : Nat → Nat → Option Nat} {L : Nat → Nat → Int64} (hd : 3 ≤ d) (hk : k ≤ mc) (hn : n ≤ ms)  {v2 : Int32} : ∀ (fu : Nat) {I : Nat → Nat → Int32} {E : Nat → Nat → Option Nat} {v3 : Int32} {r0 : (Nat → Int32) × (Nat → Int32) × (Nat → Int32) × (Nat → Int32) × (Nat → Int32) × (Nat → Int32) × (Nat → Int32) × (Nat → Int32) × (Nat → Int32) × (Nat → Int32)} (hf : f_X2_copyHalf_L36 (I 402) (I 477) (I 486) fu (I 473) (I 475) (I 476) (I 478) (I 481) (I 482) (I 483) (I 484) (I 485) (I 487) v3 = some r0) (hK0 : q_J g m_X2_copyHalf d mc ms h0 [487, 488] Q k n (q_kc (0, r, m, z, N, ext, rx, L) I E 46 [some (.ref 473), some (.ref 488), some (.int v2), none, none, none] [] [(473, r0.1), (475, r0.2.1), (476, r0.2.2.1), (478, r0.2.2.2.1), (481, r0.2.2.2.2.1), (482, r0.2.2.2.2.2.1), (483, r0.2.2.2.2.2.2.1), (484, r0.2.2.2.2.2.2.2.1), (485, r0.2.2.2.2.2.2.2.2.1), (487, r0.2.2.2.2.2.2.2.2.2)] [])), q_J g m_X2_copyHalf d mc ms h0 [487, 488] Q k n (36, [some (.ref 473), some (.ref 488), some (.int v2), some (.int v3), none, none], [], q_hp (0, r, m, z, N, ext, rx, L) I E) := by
  intro fu
  induction fu with
  | zero =>
    intro I E v3 r0 hf hK0
    rw [f_X2_copyHalf_L36] at hf
    cases hf
  | succ fu ih =>
    intro I E v3 r0 hf hK0
    rw [f_X2_copyHalf_L36] at hf
    change q_J g m_X2_copyHalf d mc ms h0 [487, 488] Q k n (q_kc (0, r, m, z, N, ext, rx, L) I E 36 [some (.ref 473), some (.ref 488), some (.int v2), some (.int v3), none, none] [] [] [])
    refine q_blf 2 [] (a := q_kc (0, r, m, z, N, ext, rx, L) I E 46 [some (.ref 473), some (.ref 488), some (.int v2), some (.int v3), none, none] [] [] []) (b := q_kc (0, r, m, z, N, ext, rx, L) I E 39 [some (.ref 473), some (.ref 488), some (.int v2), some (.int v3), none, none] [] [] []) (P := (6 : Int32) ≤ v3) ok_X2_copyHalf rfl q_cn (fun h1 => ?_) (fun h1 => ?_)
    · have hf := q_ip h1 hf
      refine q_less (ls' := [some (.ref 473), some (.ref 488), some (.int v2), none, none, none]) (q_sb2 (q_sb2 (q_sb2 (q_sb1 (q_sb1 (q_sb1 q_sb0)))))) ?_
      cases hf
      exact q_Jpad (q_pdw [473, 475, 476, 478, 481, 482, 483, 484, 485, 487] rfl rfl) (q_pdw [] rfl rfl) hK0
    · have hf := q_in h1 hf
      refine q_blk 3 [] (c' := q_kc (0, r, m, z, N, ext, rx, L) I E 42 [some (.ref 473), some (.ref 488), some (.int v2), some (.int v3), none, none] [.int v3, .ref 473, .ref 473] [] []) ok_X2_copyHalf rfl q_cn ?_
      obtain ⟨r2, hr2, hf⟩ := q_bd hf
      refine q_kV (M2 := m_X2_held) (As := [.int v3]) (b := 473) (v2 := some (.int r2)) ok_X2_copyHalf ok_X2_held cv_X2_held (ct_X2_held_473 (d := 1) (Nat.le_refl _) hr2) rfl rfl (Or.inl rfl) rfl rfl rfl rfl (Nat.le_trans (Nat.le_of_ble_eq_true rfl) hd) hk hn (Nat.le_of_ble_eq_true rfl) (fun x hx => absurd hx List.not_mem_nil) (q_nmL0 _) (q_nmS0 _) rfl (pos' := 43) (st' := [.int r2, .ref 473]) (lI' := []) (lE' := []) rfl rfl rfl rfl ?_
      obtain ⟨r3, hr3, hf⟩ := q_bd hf
      refine q_kV (M2 := m_X2_takeOver) (As := [.int r2]) (b := 473) (v2 := none) ok_X2_copyHalf ok_X2_takeOver cv_X2_takeOver (ct_X2_takeOver_473 (d := 2) (Nat.le_refl _) hr3) rfl rfl (Or.inl rfl) rfl rfl rfl rfl (Nat.le_trans (Nat.le_of_ble_eq_true rfl) hd) hk hn (Nat.le_of_ble_eq_true rfl) (fun x hx => absurd hx List.not_mem_nil) (q_nmL0 _) (q_nmS0 _) rfl (pos' := 44) (st' := []) (lI' := [(473, r3.1), (475, r3.2.1), (476, r3.2.2.1), (478, r3.2.2.2.1), (481, r3.2.2.2.2.1), (482, r3.2.2.2.2.2.1), (483, r3.2.2.2.2.2.2.1), (484, r3.2.2.2.2.2.2.2.1), (485, r3.2.2.2.2.2.2.2.2.1), (487, r3.2.2.2.2.2.2.2.2.2)]) (lE' := []) rfl rfl (q_mgw rfl rfl) rfl ?_
      refine q_blk 2 [] (c' := q_kc (0, r, m, z, N, ext, rx, L) I E 36 [some (.ref 473), some (.ref 488), some (.int v2), some (.int (v3 + 1)), none, none] [] [(473, r3.1), (475, r3.2.1), (476, r3.2.2.1), (478, r3.2.2.2.1), (481, r3.2.2.2.2.1), (482, r3.2.2.2.2.2.1), (483, r3.2.2.2.2.2.2.1), (484, r3.2.2.2.2.2.2.2.1), (485, r3.2.2.2.2.2.2.2.2.1), (487, r3.2.2.2.2.2.2.2.2.2)] []) ok_X2_copyHalf rfl q_cn ?_
      exact ih (I := q_ws I [(473, r3.1), (475, r3.2.1), (476, r3.2.2.1), (478, r3.2.2.2.1), (481, r3.2.2.2.2.1), (482, r3.2.2.2.2.2.1), (483, r3.2.2.2.2.2.2.1), (484, r3.2.2.2.2.2.2.2.1), (485, r3.2.2.2.2.2.2.2.2.1), (487, r3.2.2.2.2.2.2.2.2.2)]) (E := q_ws E []) hf (q_Jmrg (q_mgw rfl rfl) (q_mgw rfl rfl) hK0)
set_option maxHeartbeats 4000000 in
theorem lp_X2_copyHalf_L98_473 {g : q_G} {d mc ms : Nat} {h0 : q_H} {Q : (Option Value ⊕ String) → q_H → Prop} {k n : Nat} {r : Nat} {m : Nat} {z : Nat} {N : Nat} {ext : Nat → q_Sh} {rx : Nat → Nat → Option Nat} {L : Nat → Nat → Int64} (hd : 3 ≤ d) (hk : k ≤ mc) (hn : n ≤ ms)  {v2 : Int32} {v3 : Int32} {v4 : Int32} : ∀ (fu : Nat) {I : Nat → Nat → Int32} {E : Nat → Nat → Option Nat} {v5 : Int32} {r0 : (Nat → Int32) × (Nat → Int32) × (Nat → Int32) × (Nat → Int32) × (Nat → Int32) × (Nat → Int32) × (Nat → Int32) × (Nat → Int32) × (Nat → Int32) × (Nat → Int32)} (hf : f_X2_copyHalf_L98 (I 402) (I 477) (I 479) (I 480) v4 fu (I 473) (I 475) (I 476) (I 478) (I 481) (I 482) (I 483) (I 484) (I 485) (I 487) v5 = some r0) (hK0 : q_J g m_X2_copyHalf d mc ms h0 [487, 488] Q k n (q_kc (0, r, m, z, N, ext, rx, L) I E 113 [some (.ref 473), some (.ref 488), some (.int v2), some (.int v3), none, none] [] [(473, r0.1), (475, r0.2.1), (476, r0.2.2.1), (478, r0.2.2.2.1), (481, r0.2.2.2.2.1), (482, r0.2.2.2.2.2.1), (483, r0.2.2.2.2.2.2.1), (484, r0.2.2.2.2.2.2.2.1), (485, r0.2.2.2.2.2.2.2.2.1), (487, r0.2.2.2.2.2.2.2.2.2)] [])), q_J g m_X2_copyHalf d mc ms h0 [487, 488] Q k n (98, [some (.ref 473), some (.ref 488), some (.int v2), some (.int v3), some (.int v4), some (.int v5)], [], q_hp (0, r, m, z, N, ext, rx, L) I E) := by
  intro fu
  induction fu with
  | zero =>
    intro I E v5 r0 hf hK0
    rw [f_X2_copyHalf_L98] at hf
    cases hf
  | succ fu ih =>
    intro I E v5 r0 hf hK0
    rw [f_X2_copyHalf_L98] at hf
    change q_J g m_X2_copyHalf d mc ms h0 [487, 488] Q k n (q_kc (0, r, m, z, N, ext, rx, L) I E 98 [some (.ref 473), some (.ref 488), some (.int v2), some (.int v3), some (.int v4), some (.int v5)] [] [] [])
    refine q_blk 4 [] (c' := q_kc (0, r, m, z, N, ext, rx, L) I E 102 [some (.ref 473), some (.ref 488), some (.int v2), some (.int v3), some (.int v4), some (.int v5)] [.int v4, .ref 474, .int v5] [] []) ok_X2_copyHalf rfl q_cn ?_
    obtain ⟨r4, hr4, hf⟩ := q_bd hf
    refine q_kV (M2 := m_X1_ropes) (As := [.int v4]) (b := 474) (v2 := some (.int r4)) ok_X2_copyHalf ok_X1_ropes cv_X1_ropes (ct_X1_ropes_474 (d := 1) (Nat.le_refl _) hr4) rfl rfl (Or.inl rfl) rfl rfl rfl rfl (Nat.le_trans (Nat.le_of_ble_eq_true rfl) hd) hk hn (Nat.le_of_ble_eq_true rfl) (fun x hx => absurd hx List.not_mem_nil) (q_nmL0 _) (q_nmS0 _) rfl (pos' := 103) (st' := [.int r4, .int v5]) (lI' := []) (lE' := []) rfl rfl rfl rfl ?_
    refine q_blf 0 [] (a := q_kc (0, r, m, z, N, ext, rx, L) I E 113 [some (.ref 473), some (.ref 488), some (.int v2), some (.int v3), some (.int v4), some (.int v5)] [] [] []) (b := q_kc (0, r, m, z, N, ext, rx, L) I E 104 [some (.ref 473), some (.ref 488), some (.int v2), some (.int v3), some (.int v4), some (.int v5)] [] [] []) (P := r4 ≤ v5) ok_X2_copyHalf rfl q_cn (fun h5 => ?_) (fun h5 => ?_)
    · have hf := q_ip h5 hf
      refine q_less (ls' := [some (.ref 473), some (.ref 488), some (.int v2), some (.int v3), none, none]) (q_sb2 (q_sb2 (q_sb2 (q_sb2 (q_sb1 (q_sb1 q_sb0)))))) ?_
      cases hf
      exact q_Jpad (q_pdw [473, 475, 476, 478, 481, 482, 483, 484, 485, 487] rfl rfl) (q_pdw [] rfl rfl) hK0
    · have hf := q_in h5 hf
      refine q_blk 5 [] (c' := q_kc (0, r, m, z, N, ext, rx, L) I E 109 [some (.ref 473), some (.ref 488), some (.int v2), some (.int v3), some (.int v4), some (.int v5)] [.int v5, .int v4, .ref 474, .ref 473] [] []) ok_X2_copyHalf rfl q_cn ?_
      obtain ⟨r6, hr6, hf⟩ := q_bd hf
      refine q_kV (M2 := m_X1_lead) (As := [.int v4, .int v5]) (b := 474) (v2 := some (.int r6)) ok_X2_copyHalf ok_X1_lead cv_X1_lead (ct_X1_lead_474 (d := 2) (Nat.le_refl _) hr6) rfl rfl (Or.inl rfl) rfl rfl rfl rfl (Nat.le_trans (Nat.le_of_ble_eq_true rfl) hd) hk hn (Nat.le_of_ble_eq_true rfl) (fun x hx => absurd hx List.not_mem_nil) (q_nmL0 _) (q_nmS0 _) rfl (pos' := 110) (st' := [.int r6, .ref 473]) (lI' := []) (lE' := []) rfl rfl rfl rfl ?_
      obtain ⟨r7, hr7, hf⟩ := q_bd hf
      refine q_kV (M2 := m_X2_takeOver) (As := [.int r6]) (b := 473) (v2 := none) ok_X2_copyHalf ok_X2_takeOver cv_X2_takeOver (ct_X2_takeOver_473 (d := 2) (Nat.le_refl _) hr7) rfl rfl (Or.inl rfl) rfl rfl rfl rfl (Nat.le_trans (Nat.le_of_ble_eq_true rfl) hd) hk hn (Nat.le_of_ble_eq_true rfl) (fun x hx => absurd hx List.not_mem_nil) (q_nmL0 _) (q_nmS0 _) rfl (pos' := 111) (st' := []) (lI' := [(473, r7.1), (475, r7.2.1), (476, r7.2.2.1), (478, r7.2.2.2.1), (481, r7.2.2.2.2.1), (482, r7.2.2.2.2.2.1), (483, r7.2.2.2.2.2.2.1), (484, r7.2.2.2.2.2.2.2.1), (485, r7.2.2.2.2.2.2.2.2.1), (487, r7.2.2.2.2.2.2.2.2.2)]) (lE' := []) rfl rfl (q_mgw rfl rfl) rfl ?_
      refine q_blk 2 [] (c' := q_kc (0, r, m, z, N, ext, rx, L) I E 98 [some (.ref 473), some (.ref 488), some (.int v2), some (.int v3), some (.int v4), some (.int (v5 + 1))] [] [(473, r7.1), (475, r7.2.1), (476, r7.2.2.1), (478, r7.2.2.2.1), (481, r7.2.2.2.2.1), (482, r7.2.2.2.2.2.1), (483, r7.2.2.2.2.2.2.1), (484, r7.2.2.2.2.2.2.2.1), (485, r7.2.2.2.2.2.2.2.2.1), (487, r7.2.2.2.2.2.2.2.2.2)] []) ok_X2_copyHalf rfl q_cn ?_
      exact ih (I := q_ws I [(473, r7.1), (475, r7.2.1), (476, r7.2.2.1), (478, r7.2.2.2.1), (481, r7.2.2.2.2.1), (482, r7.2.2.2.2.2.1), (483, r7.2.2.2.2.2.2.1), (484, r7.2.2.2.2.2.2.2.1), (485, r7.2.2.2.2.2.2.2.2.1), (487, r7.2.2.2.2.2.2.2.2.2)]) (E := q_ws E []) hf (q_Jmrg (q_mgw rfl rfl) (q_mgw rfl rfl) hK0)
set_option maxHeartbeats 4000000 in
theorem lp_X2_copyHalf_L59_473 {g : q_G} {d mc ms : Nat} {h0 : q_H} {Q : (Option Value ⊕ String) → q_H → Prop} {k n : Nat} {r : Nat} {m : Nat} {z : Nat} {N : Nat} {ext : Nat → q_Sh} {rx : Nat → Nat → Option Nat} {L : Nat → Nat → Int64} (hd : 3 ≤ d) (hk : k ≤ mc) (hn : n ≤ ms)  {v2 : Int32} {v3 : Int32} {v4 : Int32} : ∀ (fu : Nat) {I : Nat → Nat → Int32} {E : Nat → Nat → Option Nat} {v5 : Int32} {r0 : (Nat → Int32) × (Nat → Int32) × (Nat → Int32) × (Nat → Int32) × (Nat → Int32) × (Nat → Int32) × (Nat → Int32) × (Nat → Int32) × (Nat → Int32) × (Nat → Int32)} (hf : f_X2_copyHalf_L59 (I 402) (I 477) (I 479) (I 480) v4 fu (I 473) (I 475) (I 476) (I 478) (I 481) (I 482) (I 483) (I 484) (I 485) (I 487) v5 = some r0) (hK0 : q_J g m_X2_copyHalf d mc ms h0 [487, 488] Q k n (q_kc (0, r, m, z, N, ext, rx, L) I E 79 [some (.ref 473), some (.ref 488), some (.int v2), some (.int v3), none, none] [] [(473, r0.1), (475, r0.2.1), (476, r0.2.2.1), (478, r0.2.2.2.1), (481, r0.2.2.2.2.1), (482, r0.2.2.2.2.2.1), (483, r0.2.2.2.2.2.2.1), (484, r0.2.2.2.2.2.2.2.1), (485, r0.2.2.2.2.2.2.2.2.1), (487, r0.2.2.2.2.2.2.2.2.2)] [])), q_J g m_X2_copyHalf d mc ms h0 [487, 488] Q k n (59, [some (.ref 473), some (.ref 488), some (.int v2), some (.int v3), some (.int v4), some (.int v5)], [], q_hp (0, r, m, z, N, ext, rx, L) I E) := by
  intro fu
  induction fu with
  | zero =>
    intro I E v5 r0 hf hK0
    rw [f_X2_copyHalf_L59] at hf
    cases hf
  | succ fu ih =>
    intro I E v5 r0 hf hK0
    rw [f_X2_copyHalf_L59] at hf
    change q_J g m_X2_copyHalf d mc ms h0 [487, 488] Q k n (q_kc (0, r, m, z, N, ext, rx, L) I E 59 [some (.ref 473), some (.ref 488), some (.int v2), some (.int v3), some (.int v4), some (.int v5)] [] [] [])
    refine q_blk 4 [] (c' := q_kc (0, r, m, z, N, ext, rx, L) I E 63 [some (.ref 473), some (.ref 488), some (.int v2), some (.int v3), some (.int v4), some (.int v5)] [.int v4, .ref 474, .int v5] [] []) ok_X2_copyHalf rfl q_cn ?_
    obtain ⟨r8, hr8, hf⟩ := q_bd hf
    refine q_kV (M2 := m_X1_ropes) (As := [.int v4]) (b := 474) (v2 := some (.int r8)) ok_X2_copyHalf ok_X1_ropes cv_X1_ropes (ct_X1_ropes_474 (d := 1) (Nat.le_refl _) hr8) rfl rfl (Or.inl rfl) rfl rfl rfl rfl (Nat.le_trans (Nat.le_of_ble_eq_true rfl) hd) hk hn (Nat.le_of_ble_eq_true rfl) (fun x hx => absurd hx List.not_mem_nil) (q_nmL0 _) (q_nmS0 _) rfl (pos' := 64) (st' := [.int r8, .int v5]) (lI' := []) (lE' := []) rfl rfl rfl rfl ?_
    refine q_blf 0 [] (a := q_kc (0, r, m, z, N, ext, rx, L) I E 79 [some (.ref 473), some (.ref 488), some (.int v2), some (.int v3), some (.int v4), some (.int v5)] [] [] []) (b := q_kc (0, r, m, z, N, ext, rx, L) I E 65 [some (.ref 473), some (.ref 488), some (.int v2), some (.int v3), some (.int v4), some (.int v5)] [] [] []) (P := r8 ≤ v5) ok_X2_copyHalf rfl q_cn (fun h9 => ?_) (fun h9 => ?_)
    · have hf := q_ip h9 hf
      refine q_less (ls' := [some (.ref 473), some (.ref 488), some (.int v2), some (.int v3), none, none]) (q_sb2 (q_sb2 (q_sb2 (q_sb2 (q_sb1 (q_sb1 q_sb0)))))) ?_
      cases hf
      exact q_Jpad (q_pdw [473, 475, 476, 478, 481, 482, 483, 484, 485, 487] rfl rfl) (q_pdw [] rfl rfl) hK0
    · have hf := q_in h9 hf
      refine q_blk 3 [] (c' := q_kc (0, r, m, z, N, ext, rx, L) I E 68 [some (.ref 473), some (.ref 488), some (.int v2), some (.int v3), some (.int v4), some (.int v5)] [.int v4, .ref 483] [] []) ok_X2_copyHalf rfl q_cn ?_
      obtain ⟨r10, hr10, hf⟩ := q_bd hf
      refine q_kV (M2 := m_X4_has) (As := [.int v4]) (b := 483) (v2 := some (.int (q_bz r10))) ok_X2_copyHalf ok_X4_has cv_X4_has (ct_X4_has_483 (d := 1) (Nat.le_refl _) hr10) rfl rfl (Or.inl rfl) rfl rfl rfl rfl (Nat.le_trans (Nat.le_of_ble_eq_true rfl) hd) hk hn (Nat.le_of_ble_eq_true rfl) (fun x hx => absurd hx List.not_mem_nil) (q_nmL0 _) (q_nmS0 _) rfl (pos' := 69) (st' := [.int (q_bz r10)]) (lI' := []) (lE' := []) rfl rfl rfl rfl ?_
      refine q_blf 0 [] (a := q_kc (0, r, m, z, N, ext, rx, L) I E 79 [some (.ref 473), some (.ref 488), some (.int v2), some (.int v3), some (.int v4), some (.int v5)] [] [] []) (b := q_kc (0, r, m, z, N, ext, rx, L) I E 70 [some (.ref 473), some (.ref 488), some (.int v2), some (.int v3), some (.int v4), some (.int v5)] [] [] []) (P := ¬ (q_bz r10) = 0) ok_X2_copyHalf rfl q_cn (fun h11 => ?_) (fun h11 => ?_)
      · have hf := q_ip h11 hf
        refine q_less (ls' := [some (.ref 473), some (.ref 488), some (.int v2), some (.int v3), none, none]) (q_sb2 (q_sb2 (q_sb2 (q_sb2 (q_sb1 (q_sb1 q_sb0)))))) ?_
        cases hf
        exact q_Jpad (q_pdw [473, 475, 476, 478, 481, 482, 483, 484, 485, 487] rfl rfl) (q_pdw [] rfl rfl) hK0
      · have hf := q_in h11 hf
        refine q_blk 5 [] (c' := q_kc (0, r, m, z, N, ext, rx, L) I E 75 [some (.ref 473), some (.ref 488), some (.int v2), some (.int v3), some (.int v4), some (.int v5)] [.int v5, .int v4, .ref 474, .ref 473] [] []) ok_X2_copyHalf rfl q_cn ?_
        obtain ⟨r12, hr12, hf⟩ := q_bd hf
        refine q_kV (M2 := m_X1_lead) (As := [.int v4, .int v5]) (b := 474) (v2 := some (.int r12)) ok_X2_copyHalf ok_X1_lead cv_X1_lead (ct_X1_lead_474 (d := 2) (Nat.le_refl _) hr12) rfl rfl (Or.inl rfl) rfl rfl rfl rfl (Nat.le_trans (Nat.le_of_ble_eq_true rfl) hd) hk hn (Nat.le_of_ble_eq_true rfl) (fun x hx => absurd hx List.not_mem_nil) (q_nmL0 _) (q_nmS0 _) rfl (pos' := 76) (st' := [.int r12, .ref 473]) (lI' := []) (lE' := []) rfl rfl rfl rfl ?_
        obtain ⟨r13, hr13, hf⟩ := q_bd hf
        refine q_kV (M2 := m_X2_takeOver) (As := [.int r12]) (b := 473) (v2 := none) ok_X2_copyHalf ok_X2_takeOver cv_X2_takeOver (ct_X2_takeOver_473 (d := 2) (Nat.le_refl _) hr13) rfl rfl (Or.inl rfl) rfl rfl rfl rfl (Nat.le_trans (Nat.le_of_ble_eq_true rfl) hd) hk hn (Nat.le_of_ble_eq_true rfl) (fun x hx => absurd hx List.not_mem_nil) (q_nmL0 _) (q_nmS0 _) rfl (pos' := 77) (st' := []) (lI' := [(473, r13.1), (475, r13.2.1), (476, r13.2.2.1), (478, r13.2.2.2.1), (481, r13.2.2.2.2.1), (482, r13.2.2.2.2.2.1), (483, r13.2.2.2.2.2.2.1), (484, r13.2.2.2.2.2.2.2.1), (485, r13.2.2.2.2.2.2.2.2.1), (487, r13.2.2.2.2.2.2.2.2.2)]) (lE' := []) rfl rfl (q_mgw rfl rfl) rfl ?_
        refine q_blk 2 [] (c' := q_kc (0, r, m, z, N, ext, rx, L) I E 59 [some (.ref 473), some (.ref 488), some (.int v2), some (.int v3), some (.int v4), some (.int (v5 + 1))] [] [(473, r13.1), (475, r13.2.1), (476, r13.2.2.1), (478, r13.2.2.2.1), (481, r13.2.2.2.2.1), (482, r13.2.2.2.2.2.1), (483, r13.2.2.2.2.2.2.1), (484, r13.2.2.2.2.2.2.2.1), (485, r13.2.2.2.2.2.2.2.2.1), (487, r13.2.2.2.2.2.2.2.2.2)] []) ok_X2_copyHalf rfl q_cn ?_
        exact ih (I := q_ws I [(473, r13.1), (475, r13.2.1), (476, r13.2.2.1), (478, r13.2.2.2.1), (481, r13.2.2.2.2.1), (482, r13.2.2.2.2.2.1), (483, r13.2.2.2.2.2.2.1), (484, r13.2.2.2.2.2.2.2.1), (485, r13.2.2.2.2.2.2.2.2.1), (487, r13.2.2.2.2.2.2.2.2.2)]) (E := q_ws E []) hf (q_Jmrg (q_mgw rfl rfl) (q_mgw rfl rfl) hK0)
set_option maxHeartbeats 4000000 in
theorem lp_X2_copyHalf_L83_473 {g : q_G} {d mc ms : Nat} {h0 : q_H} {Q : (Option Value ⊕ String) → q_H → Prop} {k n : Nat} {r : Nat} {m : Nat} {z : Nat} {N : Nat} {ext : Nat → q_Sh} {rx : Nat → Nat → Option Nat} {L : Nat → Nat → Int64} (hd : 3 ≤ d) (hk : k ≤ mc) (hn : n ≤ ms)  {v2 : Int32} : ∀ (fu : Nat) {I : Nat → Nat → Int32} {E : Nat → Nat → Option Nat} {v3 : Int32} {r0 : (Nat → Int32) × (Nat → Int32) × (Nat → Int32) × (Nat → Int32) × (Nat → Int32) × (Nat → Int32) × (Nat → Int32) × (Nat → Int32) × (Nat → Int32) × (Nat → Int32)} (hf : f_X2_copyHalf_L83 (I 402) (I 477) (I 479) (I 480) fu (I 473) (I 475) (I 476) (I 478) (I 481) (I 482) (I 483) (I 484) (I 485) (I 487) v3 = some r0) (hK0 : q_J g m_X2_copyHalf d mc ms h0 [487, 488] Q k n (q_kc (0, r, m, z, N, ext, rx, L) I E 115 [some (.ref 473), some (.ref 488), some (.int v2), none, none, none] [] [(473, r0.1), (475, r0.2.1), (476, r0.2.2.1), (478, r0.2.2.2.1), (481, r0.2.2.2.2.1), (482, r0.2.2.2.2.2.1), (483, r0.2.2.2.2.2.2.1), (484, r0.2.2.2.2.2.2.2.1), (485, r0.2.2.2.2.2.2.2.2.1), (487, r0.2.2.2.2.2.2.2.2.2)] [])), q_J g m_X2_copyHalf d mc ms h0 [487, 488] Q k n (83, [some (.ref 473), some (.ref 488), some (.int v2), some (.int v3), none, none], [], q_hp (0, r, m, z, N, ext, rx, L) I E) := by
  intro fu
  induction fu with
  | zero =>
    intro I E v3 r0 hf hK0
    rw [f_X2_copyHalf_L83] at hf
    cases hf
  | succ fu ih =>
    intro I E v3 r0 hf hK0
    rw [f_X2_copyHalf_L83] at hf
    change q_J g m_X2_copyHalf d mc ms h0 [487, 488] Q k n (q_kc (0, r, m, z, N, ext, rx, L) I E 83 [some (.ref 473), some (.ref 488), some (.int v2), some (.int v3), none, none] [] [] [])
    refine q_blf 2 [] (a := q_kc (0, r, m, z, N, ext, rx, L) I E 115 [some (.ref 473), some (.ref 488), some (.int v2), some (.int v3), none, none] [] [] []) (b := q_kc (0, r, m, z, N, ext, rx, L) I E 86 [some (.ref 473), some (.ref 488), some (.int v2), some (.int v3), none, none] [] [] []) (P := (128 : Int32) ≤ v3) ok_X2_copyHalf rfl q_cn (fun h14 => ?_) (fun h14 => ?_)
    · have hf := q_ip h14 hf
      refine q_less (ls' := [some (.ref 473), some (.ref 488), some (.int v2), none, none, none]) (q_sb2 (q_sb2 (q_sb2 (q_sb1 (q_sb1 (q_sb1 q_sb0)))))) ?_
      cases hf
      exact q_Jpad (q_pdw [473, 475, 476, 478, 481, 482, 483, 484, 485, 487] rfl rfl) (q_pdw [] rfl rfl) hK0
    · have hf := q_in h14 hf
      refine q_blk 3 [] (c' := q_kc (0, r, m, z, N, ext, rx, L) I E 89 [some (.ref 473), some (.ref 488), some (.int v2), some (.int v3), none, none] [.ref 483, .int v3] [] []) ok_X2_copyHalf rfl q_cn ?_
      obtain ⟨r15, hr15, hf⟩ := q_bd hf
      refine q_kV (M2 := m_X4_length) (As := []) (b := 483) (v2 := some (.int r15)) ok_X2_copyHalf ok_X4_length cv_X4_length (ct_X4_length_483 (d := 1) (Nat.le_refl _) hr15) rfl rfl (Or.inl rfl) rfl rfl rfl rfl (Nat.le_trans (Nat.le_of_ble_eq_true rfl) hd) hk hn (Nat.le_of_ble_eq_true rfl) (fun x hx => absurd hx List.not_mem_nil) (q_nmL0 _) (q_nmS0 _) rfl (pos' := 90) (st' := [.int r15, .int v3]) (lI' := []) (lE' := []) rfl rfl rfl rfl ?_
      refine q_blf 0 [] (a := q_kc (0, r, m, z, N, ext, rx, L) I E 115 [some (.ref 473), some (.ref 488), some (.int v2), some (.int v3), none, none] [] [] []) (b := q_kc (0, r, m, z, N, ext, rx, L) I E 91 [some (.ref 473), some (.ref 488), some (.int v2), some (.int v3), none, none] [] [] []) (P := r15 ≤ v3) ok_X2_copyHalf rfl q_cn (fun h16 => ?_) (fun h16 => ?_)
      · have hf := q_ip h16 hf
        refine q_less (ls' := [some (.ref 473), some (.ref 488), some (.int v2), none, none, none]) (q_sb2 (q_sb2 (q_sb2 (q_sb1 (q_sb1 (q_sb1 q_sb0)))))) ?_
        cases hf
        exact q_Jpad (q_pdw [473, 475, 476, 478, 481, 482, 483, 484, 485, 487] rfl rfl) (q_pdw [] rfl rfl) hK0
      · have hf := q_in h16 hf
        refine q_blk 3 [] (c' := q_kc (0, r, m, z, N, ext, rx, L) I E 94 [some (.ref 473), some (.ref 488), some (.int v2), some (.int v3), none, none] [.int v3, .ref 483] [] []) ok_X2_copyHalf rfl q_cn ?_
        obtain ⟨r17, hr17, hf⟩ := q_bd hf
        refine q_kV (M2 := m_X4_at) (As := [.int v3]) (b := 483) (v2 := some (.int r17)) ok_X2_copyHalf ok_X4_at cv_X4_at (ct_X4_at_483 (d := 1) (Nat.le_refl _) hr17) rfl rfl (Or.inl rfl) rfl rfl rfl rfl (Nat.le_trans (Nat.le_of_ble_eq_true rfl) hd) hk hn (Nat.le_of_ble_eq_true rfl) (fun x hx => absurd hx List.not_mem_nil) (q_nmL0 _) (q_nmS0 _) rfl (pos' := 95) (st' := [.int r17]) (lI' := []) (lE' := []) rfl rfl rfl rfl ?_
        refine q_blk 3 [] (c' := q_kc (0, r, m, z, N, ext, rx, L) I E 98 [some (.ref 473), some (.ref 488), some (.int v2), some (.int v3), some (.int r17), some (.int (0 : Int32))] [] [] []) ok_X2_copyHalf rfl q_cn ?_
        obtain ⟨r18, hr18, hf⟩ := q_bd hf
        refine lp_X2_copyHalf_L98_473 (I := q_ws I []) (E := q_ws E []) hd hk hn 4096 hr18 ?_
        refine q_Jmrg (lI' := [(473, r18.1), (475, r18.2.1), (476, r18.2.2.1), (478, r18.2.2.2.1), (481, r18.2.2.2.2.1), (482, r18.2.2.2.2.2.1), (483, r18.2.2.2.2.2.2.1), (484, r18.2.2.2.2.2.2.2.1), (485, r18.2.2.2.2.2.2.2.2.1), (487, r18.2.2.2.2.2.2.2.2.2)]) (lE' := []) (q_mgw rfl rfl) (q_mgw rfl rfl) ?_
        refine q_blk 2 [] (c' := q_kc (0, r, m, z, N, ext, rx, L) I E 83 [some (.ref 473), some (.ref 488), some (.int v2), some (.int (v3 + 1)), none, none] [] [(473, r18.1), (475, r18.2.1), (476, r18.2.2.1), (478, r18.2.2.2.1), (481, r18.2.2.2.2.1), (482, r18.2.2.2.2.2.1), (483, r18.2.2.2.2.2.2.1), (484, r18.2.2.2.2.2.2.2.1), (485, r18.2.2.2.2.2.2.2.2.1), (487, r18.2.2.2.2.2.2.2.2.2)] []) ok_X2_copyHalf rfl q_cn ?_
        exact ih (I := q_ws I [(473, r18.1), (475, r18.2.1), (476, r18.2.2.1), (478, r18.2.2.2.1), (481, r18.2.2.2.2.1), (482, r18.2.2.2.2.2.1), (483, r18.2.2.2.2.2.2.1), (484, r18.2.2.2.2.2.2.2.1), (485, r18.2.2.2.2.2.2.2.2.1), (487, r18.2.2.2.2.2.2.2.2.2)]) (E := q_ws E []) hf (q_Jmrg (q_mgw rfl rfl) (q_mgw rfl rfl) hK0)
set_option maxHeartbeats 4000000 in
theorem lp_X2_copyHalf_L48_473 {g : q_G} {d mc ms : Nat} {h0 : q_H} {Q : (Option Value ⊕ String) → q_H → Prop} {k n : Nat} {r : Nat} {m : Nat} {z : Nat} {N : Nat} {ext : Nat → q_Sh} {rx : Nat → Nat → Option Nat} {L : Nat → Nat → Int64} (hd : 3 ≤ d) (hk : k ≤ mc) (hn : n ≤ ms)  {v2 : Int32} : ∀ (fu : Nat) {I : Nat → Nat → Int32} {E : Nat → Nat → Option Nat} {v3 : Int32} {r0 : (Nat → Int32) × (Nat → Int32) × (Nat → Int32) × (Nat → Int32) × (Nat → Int32) × (Nat → Int32) × (Nat → Int32) × (Nat → Int32) × (Nat → Int32) × (Nat → Int32)} (hf : f_X2_copyHalf_L48 (I 402) (I 477) (I 479) (I 480) fu (I 473) (I 475) (I 476) (I 478) (I 481) (I 482) (I 483) (I 484) (I 485) (I 487) v3 = some r0) (hK0 : q_J g m_X2_copyHalf d mc ms h0 [487, 488] Q k n (q_kc (0, r, m, z, N, ext, rx, L) I E 81 [some (.ref 473), some (.ref 488), some (.int v2), none, none, none] [] [(473, r0.1), (475, r0.2.1), (476, r0.2.2.1), (478, r0.2.2.2.1), (481, r0.2.2.2.2.1), (482, r0.2.2.2.2.2.1), (483, r0.2.2.2.2.2.2.1), (484, r0.2.2.2.2.2.2.2.1), (485, r0.2.2.2.2.2.2.2.2.1), (487, r0.2.2.2.2.2.2.2.2.2)] [])), q_J g m_X2_copyHalf d mc ms h0 [487, 488] Q k n (48, [some (.ref 473), some (.ref 488), some (.int v2), some (.int v3), none, none], [], q_hp (0, r, m, z, N, ext, rx, L) I E) := by
  intro fu
  induction fu with
  | zero =>
    intro I E v3 r0 hf hK0
    rw [f_X2_copyHalf_L48] at hf
    cases hf
  | succ fu ih =>
    intro I E v3 r0 hf hK0
    rw [f_X2_copyHalf_L48] at hf
    change q_J g m_X2_copyHalf d mc ms h0 [487, 488] Q k n (q_kc (0, r, m, z, N, ext, rx, L) I E 48 [some (.ref 473), some (.ref 488), some (.int v2), some (.int v3), none, none] [] [] [])
    refine q_blf 4 [] (a := q_kc (0, r, m, z, N, ext, rx, L) I E 81 [some (.ref 473), some (.ref 488), some (.int v2), some (.int v3), none, none] [] [] []) (b := q_kc (0, r, m, z, N, ext, rx, L) I E 53 [some (.ref 473), some (.ref 488), some (.int v2), some (.int v3), none, none] [] [] []) (P := ((I 402) 1) ≤ v3) ok_X2_copyHalf rfl q_cn (fun h19 => ?_) (fun h19 => ?_)
    · have hf := q_ip h19 hf
      refine q_less (ls' := [some (.ref 473), some (.ref 488), some (.int v2), none, none, none]) (q_sb2 (q_sb2 (q_sb2 (q_sb1 (q_sb1 (q_sb1 q_sb0)))))) ?_
      cases hf
      exact q_Jpad (q_pdw [473, 475, 476, 478, 481, 482, 483, 484, 485, 487] rfl rfl) (q_pdw [] rfl rfl) hK0
    · have hf := q_in h19 hf
      refine q_blk 2 [] (c' := q_kc (0, r, m, z, N, ext, rx, L) I E 55 [some (.ref 473), some (.ref 488), some (.int v2), some (.int v3), none, none] [.int v3, .ref 473] [] []) ok_X2_copyHalf rfl q_cn ?_
      obtain ⟨r20, hr20, hf⟩ := q_bd hf
      refine q_kV (M2 := m_X2_loftBaleFrom) (As := [.int v3]) (b := 473) (v2 := some (.int r20)) ok_X2_copyHalf ok_X2_loftBaleFrom cv_X2_loftBaleFrom (ct_X2_loftBaleFrom_473 (d := 2) (Nat.le_refl _) hr20) rfl rfl (Or.inl rfl) rfl rfl rfl rfl (Nat.le_trans (Nat.le_of_ble_eq_true rfl) hd) hk hn (Nat.le_of_ble_eq_true rfl) (fun x hx => absurd hx List.not_mem_nil) (q_nmL0 _) (q_nmS0 _) rfl (pos' := 56) (st' := [.int r20]) (lI' := []) (lE' := []) rfl rfl rfl rfl ?_
      refine q_blk 3 [] (c' := q_kc (0, r, m, z, N, ext, rx, L) I E 59 [some (.ref 473), some (.ref 488), some (.int v2), some (.int v3), some (.int r20), some (.int (0 : Int32))] [] [] []) ok_X2_copyHalf rfl q_cn ?_
      obtain ⟨r21, hr21, hf⟩ := q_bd hf
      refine lp_X2_copyHalf_L59_473 (I := q_ws I []) (E := q_ws E []) hd hk hn 4096 hr21 ?_
      refine q_Jmrg (lI' := [(473, r21.1), (475, r21.2.1), (476, r21.2.2.1), (478, r21.2.2.2.1), (481, r21.2.2.2.2.1), (482, r21.2.2.2.2.2.1), (483, r21.2.2.2.2.2.2.1), (484, r21.2.2.2.2.2.2.2.1), (485, r21.2.2.2.2.2.2.2.2.1), (487, r21.2.2.2.2.2.2.2.2.2)]) (lE' := []) (q_mgw rfl rfl) (q_mgw rfl rfl) ?_
      refine q_blk 2 [] (c' := q_kc (0, r, m, z, N, ext, rx, L) I E 48 [some (.ref 473), some (.ref 488), some (.int v2), some (.int (v3 + 1)), none, none] [] [(473, r21.1), (475, r21.2.1), (476, r21.2.2.1), (478, r21.2.2.2.1), (481, r21.2.2.2.2.1), (482, r21.2.2.2.2.2.1), (483, r21.2.2.2.2.2.2.1), (484, r21.2.2.2.2.2.2.2.1), (485, r21.2.2.2.2.2.2.2.2.1), (487, r21.2.2.2.2.2.2.2.2.2)] []) ok_X2_copyHalf rfl q_cn ?_
      exact ih (I := q_ws I [(473, r21.1), (475, r21.2.1), (476, r21.2.2.1), (478, r21.2.2.2.1), (481, r21.2.2.2.2.1), (482, r21.2.2.2.2.2.1), (483, r21.2.2.2.2.2.2.1), (484, r21.2.2.2.2.2.2.2.1), (485, r21.2.2.2.2.2.2.2.2.1), (487, r21.2.2.2.2.2.2.2.2.2)]) (E := q_ws E []) hf (q_Jmrg (q_mgw rfl rfl) (q_mgw rfl rfl) hK0)
set_option maxHeartbeats 4000000 in
theorem ct_X2_copyHalf_473 {g : q_G} {r : Nat} {m : Nat} {ext : Nat → q_Sh} {rx : Nat → Nat → Option Nat} {L : Nat → Nat → Int64} {d : Nat} (hd : 3 ≤ d)  {I : Nat → Nat → Int32} {E : Nat → Nat → Option Nat} {r0 : Int32 × (Nat → Int32) × (Nat → Int32) × (Nat → Int32) × (Nat → Int32) × (Nat → Int32) × (Nat → Int32) × (Nat → Int32) × (Nat → Int32) × (Nat → Int32) × (Nat → Int32) × (Nat → Int32)} (hf : f_X2_copyHalf (I 402) (I 473) (I 475) (I 476) (I 477) (I 478) (I 479) (I 480) (I 481) (I 482) (I 483) (I 484) (I 485) (I 486) (I 487) (I 488) = some r0) : q_Ct g m_X2_copyHalf d 0 0 [487, 488] [.ref 473] (q_hp (0, r, m, 499, 492, ext, rx, L) I E) (fun o h' => o = .inl (some (.int r0.1)) ∧ h' = q_hp (0, r, m, 499, 492, ext, rx, L) (q_ws I [(473, r0.2.1), (475, r0.2.2.1), (476, r0.2.2.2.1), (478, r0.2.2.2.2.1), (481, r0.2.2.2.2.2.1), (482, r0.2.2.2.2.2.2.1), (483, r0.2.2.2.2.2.2.2.1), (484, r0.2.2.2.2.2.2.2.2.1), (485, r0.2.2.2.2.2.2.2.2.2.1), (487, r0.2.2.2.2.2.2.2.2.2.2.1), (488, r0.2.2.2.2.2.2.2.2.2.2.2)]) (q_ws E [])) := by
  rw [f_X2_copyHalf] at hf
  refine q_Ct_of ok_X2_copyHalf (Nat.le_of_ble_eq_true rfl) ?_ _ rfl rfl
  change q_J g m_X2_copyHalf d 0 0 _ [487, 488] _ 0 0 (q_kc (0, r, m, 499, 492, ext, rx, L) I E 0 [some (.ref 473), none, none, none, none, none] [] [] [])
  refine q_blk 6 [] (c' := q_kc (0, r, m, 499, 492, ext, rx, L) I E 6 [some (.ref 473), some (.ref 487), some (.int ((I 473) 7)), none, none, none] [] [] []) ok_X2_copyHalf rfl q_cn ?_
  refine q_kswap473 (lI' := [(487, (I 488)), (488, (I 487))]) rfl ?_
  refine q_blk 20 [] (c' := q_kc (0, r, m, 499, 492, ext, rx, L) I E 33 [some (.ref 473), some (.ref 488), some (.int ((I 473) 7)), none, none, none] [.ref 483] [(473, (q_up (q_up (q_up (q_up (I 473) 7 (0 : Int32)) 8 (0 : Int32)) 9 ((1 : Int32) - ((q_up (q_up (I 473) 7 (0 : Int32)) 8 (0 : Int32)) 9))) 12 (((q_up (q_up (q_up (I 473) 7 (0 : Int32)) 8 (0 : Int32)) 9 ((1 : Int32) - ((q_up (q_up (I 473) 7 (0 : Int32)) 8 (0 : Int32)) 9))) 12) + (1 : Int32)))), (487, (I 488)), (488, (I 487))] []) ok_X2_copyHalf rfl q_cn ?_
  obtain ⟨r22, hr22, hf⟩ := q_bd hf
  refine q_kV (M2 := m_X4_clear) (As := []) (b := 483) (v2 := none) ok_X2_copyHalf ok_X4_clear cv_X4_clear (ct_X4_clear_483 (d := 2) (Nat.le_refl _) hr22) rfl rfl (Or.inl rfl) rfl rfl rfl rfl (Nat.le_trans (Nat.le_of_ble_eq_true rfl) hd) (Nat.le_of_ble_eq_true rfl) (Nat.le_of_ble_eq_true rfl) (Nat.le_of_ble_eq_true rfl) (fun x hx => absurd hx List.not_mem_nil) (q_nmL0 _) (q_nmS0 _) rfl (pos' := 34) (st' := []) (lI' := [(473, (q_up (q_up (q_up (q_up (I 473) 7 (0 : Int32)) 8 (0 : Int32)) 9 ((1 : Int32) - ((q_up (q_up (I 473) 7 (0 : Int32)) 8 (0 : Int32)) 9))) 12 (((q_up (q_up (q_up (I 473) 7 (0 : Int32)) 8 (0 : Int32)) 9 ((1 : Int32) - ((q_up (q_up (I 473) 7 (0 : Int32)) 8 (0 : Int32)) 9))) 12) + (1 : Int32)))), (483, r22.1), (485, r22.2), (487, (I 488)), (488, (I 487))]) (lE' := []) rfl rfl (q_mgw rfl rfl) rfl ?_
  refine q_blk 2 [] (c' := q_kc (0, r, m, 499, 492, ext, rx, L) I E 36 [some (.ref 473), some (.ref 488), some (.int ((I 473) 7)), some (.int (0 : Int32)), none, none] [] [(473, (q_up (q_up (q_up (q_up (I 473) 7 (0 : Int32)) 8 (0 : Int32)) 9 ((1 : Int32) - ((q_up (q_up (I 473) 7 (0 : Int32)) 8 (0 : Int32)) 9))) 12 (((q_up (q_up (q_up (I 473) 7 (0 : Int32)) 8 (0 : Int32)) 9 ((1 : Int32) - ((q_up (q_up (I 473) 7 (0 : Int32)) 8 (0 : Int32)) 9))) 12) + (1 : Int32)))), (483, r22.1), (485, r22.2), (487, (I 488)), (488, (I 487))] []) ok_X2_copyHalf rfl q_cn ?_
  obtain ⟨r23, hr23, hf⟩ := q_bd hf
  refine lp_X2_copyHalf_L36_473 (I := q_ws I [(473, (q_up (q_up (q_up (q_up (I 473) 7 (0 : Int32)) 8 (0 : Int32)) 9 ((1 : Int32) - ((q_up (q_up (I 473) 7 (0 : Int32)) 8 (0 : Int32)) 9))) 12 (((q_up (q_up (q_up (I 473) 7 (0 : Int32)) 8 (0 : Int32)) 9 ((1 : Int32) - ((q_up (q_up (I 473) 7 (0 : Int32)) 8 (0 : Int32)) 9))) 12) + (1 : Int32)))), (483, r22.1), (485, r22.2), (487, (I 488)), (488, (I 487))]) (E := q_ws E []) hd (Nat.le_of_ble_eq_true rfl) (Nat.le_of_ble_eq_true rfl) 4096 hr23 ?_
  refine q_Jmrg (lI' := [(473, r23.1), (475, r23.2.1), (476, r23.2.2.1), (478, r23.2.2.2.1), (481, r23.2.2.2.2.1), (482, r23.2.2.2.2.2.1), (483, r23.2.2.2.2.2.2.1), (484, r23.2.2.2.2.2.2.2.1), (485, r23.2.2.2.2.2.2.2.2.1), (487, r23.2.2.2.2.2.2.2.2.2), (488, (I 487))]) (lE' := []) (q_mgw rfl rfl) (q_mgw rfl rfl) ?_
  refine q_blk 2 [] (c' := q_kc (0, r, m, 499, 492, ext, rx, L) I E 48 [some (.ref 473), some (.ref 488), some (.int ((I 473) 7)), some (.int (0 : Int32)), none, none] [] [(473, r23.1), (475, r23.2.1), (476, r23.2.2.1), (478, r23.2.2.2.1), (481, r23.2.2.2.2.1), (482, r23.2.2.2.2.2.1), (483, r23.2.2.2.2.2.2.1), (484, r23.2.2.2.2.2.2.2.1), (485, r23.2.2.2.2.2.2.2.2.1), (487, r23.2.2.2.2.2.2.2.2.2), (488, (I 487))] []) ok_X2_copyHalf rfl q_cn ?_
  obtain ⟨r24, hr24, hf⟩ := q_bd hf
  refine lp_X2_copyHalf_L48_473 (I := q_ws I [(473, r23.1), (475, r23.2.1), (476, r23.2.2.1), (478, r23.2.2.2.1), (481, r23.2.2.2.2.1), (482, r23.2.2.2.2.2.1), (483, r23.2.2.2.2.2.2.1), (484, r23.2.2.2.2.2.2.2.1), (485, r23.2.2.2.2.2.2.2.2.1), (487, r23.2.2.2.2.2.2.2.2.2), (488, (I 487))]) (E := q_ws E []) hd (Nat.le_of_ble_eq_true rfl) (Nat.le_of_ble_eq_true rfl) 4096 hr24 ?_
  refine q_Jmrg (lI' := [(473, r24.1), (475, r24.2.1), (476, r24.2.2.1), (478, r24.2.2.2.1), (481, r24.2.2.2.2.1), (482, r24.2.2.2.2.2.1), (483, r24.2.2.2.2.2.2.1), (484, r24.2.2.2.2.2.2.2.1), (485, r24.2.2.2.2.2.2.2.2.1), (487, r24.2.2.2.2.2.2.2.2.2), (488, (I 487))]) (lE' := []) (q_mgw rfl rfl) (q_mgw rfl rfl) ?_
  refine q_blk 2 [] (c' := q_kc (0, r, m, 499, 492, ext, rx, L) I E 83 [some (.ref 473), some (.ref 488), some (.int ((I 473) 7)), some (.int (0 : Int32)), none, none] [] [(473, r24.1), (475, r24.2.1), (476, r24.2.2.1), (478, r24.2.2.2.1), (481, r24.2.2.2.2.1), (482, r24.2.2.2.2.2.1), (483, r24.2.2.2.2.2.2.1), (484, r24.2.2.2.2.2.2.2.1), (485, r24.2.2.2.2.2.2.2.2.1), (487, r24.2.2.2.2.2.2.2.2.2), (488, (I 487))] []) ok_X2_copyHalf rfl q_cn ?_
  obtain ⟨r25, hr25, hf⟩ := q_bd hf
  refine lp_X2_copyHalf_L83_473 (I := q_ws I [(473, r24.1), (475, r24.2.1), (476, r24.2.2.1), (478, r24.2.2.2.1), (481, r24.2.2.2.2.1), (482, r24.2.2.2.2.2.1), (483, r24.2.2.2.2.2.2.1), (484, r24.2.2.2.2.2.2.2.1), (485, r24.2.2.2.2.2.2.2.2.1), (487, r24.2.2.2.2.2.2.2.2.2), (488, (I 487))]) (E := q_ws E []) hd (Nat.le_of_ble_eq_true rfl) (Nat.le_of_ble_eq_true rfl) 4096 hr25 ?_
  refine q_Jmrg (lI' := [(473, r25.1), (475, r25.2.1), (476, r25.2.2.1), (478, r25.2.2.2.1), (481, r25.2.2.2.2.1), (482, r25.2.2.2.2.2.1), (483, r25.2.2.2.2.2.2.1), (484, r25.2.2.2.2.2.2.2.1), (485, r25.2.2.2.2.2.2.2.2.1), (487, r25.2.2.2.2.2.2.2.2.2), (488, (I 487))]) (lE' := []) (q_mgw rfl rfl) (q_mgw rfl rfl) ?_
  refine q_blk 3 [] (c' := q_kc (0, r, m, 499, 492, ext, rx, L) I E 118 [some (.ref 473), some (.ref 488), some (.int ((I 473) 7)), none, none, none] [.int ((I 473) 7), .ref 488, .ref 473] [(473, r25.1), (475, r25.2.1), (476, r25.2.2.1), (478, r25.2.2.2.1), (481, r25.2.2.2.2.1), (482, r25.2.2.2.2.2.1), (483, r25.2.2.2.2.2.2.1), (484, r25.2.2.2.2.2.2.2.1), (485, r25.2.2.2.2.2.2.2.2.1), (487, r25.2.2.2.2.2.2.2.2.2), (488, (I 487))] []) ok_X2_copyHalf rfl q_cn ?_
  obtain ⟨r26, hr26, hf⟩ := q_bd hf
  refine q_kV (M2 := m_X2_loseRest) (As := [.ref 488, .int ((I 473) 7)]) (b := 473) (v2 := some (.int r26.1)) ok_X2_copyHalf ok_X2_loseRest cv_X2_loseRest (ct_X2_loseRest_473_488 (d := 2) (Nat.le_refl _) hr26) rfl rfl (Or.inl rfl) rfl rfl rfl rfl (Nat.le_trans (Nat.le_of_ble_eq_true rfl) hd) (Nat.le_of_ble_eq_true rfl) (Nat.le_of_ble_eq_true rfl) (Nat.le_of_ble_eq_true rfl) (fun x hx => absurd hx List.not_mem_nil) (q_nmL0 _) (q_nmS0 _) rfl (pos' := 119) (st' := [.int r26.1]) (lI' := [(473, r26.2.1), (475, r26.2.2), (476, r25.2.2.1), (478, r25.2.2.2.1), (481, r25.2.2.2.2.1), (482, r25.2.2.2.2.2.1), (483, r25.2.2.2.2.2.2.1), (484, r25.2.2.2.2.2.2.2.1), (485, r25.2.2.2.2.2.2.2.2.1), (487, r25.2.2.2.2.2.2.2.2.2), (488, (I 487))]) (lE' := []) rfl rfl (q_mgw rfl rfl) rfl ?_
  cases hf
  exact q_kri ok_X2_copyHalf rfl rfl rfl (Nat.le_of_ble_eq_true rfl) (Nat.le_of_ble_eq_true rfl) ⟨rfl, q_hpe (q_pdw [473, 475, 476, 478, 481, 482, 483, 484, 485, 487, 488] rfl rfl) (q_pdw [] rfl rfl)⟩
set_option maxHeartbeats 4000000 in
theorem lp_X1_add_L2_474 {g : q_G} {d mc ms : Nat} {h0 : q_H} {Q : (Option Value ⊕ String) → q_H → Prop} {k n : Nat} {t : Nat} {r : Nat} {m : Nat} {z : Nat} {N : Nat} {ext : Nat → q_Sh} {rx : Nat → Nat → Option Nat} {L : Nat → Nat → Int64} (hd : 1 ≤ d) (hk : k ≤ mc) (hn : n ≤ ms)  {v1 : Int32} {v2 : Int32} {v3 : Int32} : ∀ (fu : Nat) {I : Nat → Nat → Int32} {E : Nat → Nat → Option Nat} {v4 : Int32} {r0 : Nat × Int32} (hf : f_X1_add_L2 (I 475) fu v4 = some r0) (hK0 : r0.1 = 0 → q_J g m_X1_add d mc ms h0 [] Q k n (q_kc (t, r, m, z, N, ext, rx, L) I E 55 [none, none, none, none, none, none] [] [] [])) (hK1 : r0.1 = 1 → q_J g m_X1_add d mc ms h0 [] Q k n (q_kc (t, r, m, z, N, ext, rx, L) I E 10 [some (.ref 474), some (.int v1), some (.int v2), some (.int v3), some (.int r0.2), none] [] [] [])), q_J g m_X1_add d mc ms h0 [] Q k n (2, [some (.ref 474), some (.int v1), some (.int v2), some (.int v3), some (.int v4), none], [], q_hp (t, r, m, z, N, ext, rx, L) I E) := by
  intro fu
  induction fu with
  | zero =>
    intro I E v4 r0 hf hK0 hK1
    rw [f_X1_add_L2] at hf
    cases hf
  | succ fu ih =>
    intro I E v4 r0 hf hK0 hK1
    rw [f_X1_add_L2] at hf
    change q_J g m_X1_add d mc ms h0 [] Q k n (q_kc (t, r, m, z, N, ext, rx, L) I E 2 [some (.ref 474), some (.int v1), some (.int v2), some (.int v3), some (.int v4), none] [] [] [])
    refine q_blf 2 [] (a := q_kc (t, r, m, z, N, ext, rx, L) I E 55 [some (.ref 474), some (.int v1), some (.int v2), some (.int v3), some (.int v4), none] [] [] []) (b := q_kc (t, r, m, z, N, ext, rx, L) I E 5 [some (.ref 474), some (.int v1), some (.int v2), some (.int v3), some (.int v4), none] [] [] []) (P := (128 : Int32) ≤ v4) ok_X1_add rfl q_cn (fun h1 => ?_) (fun h1 => ?_)
    · have hf := q_ip h1 hf
      refine q_less (ls' := [none, none, none, none, none, none]) (q_sb1 (q_sb1 (q_sb1 (q_sb1 (q_sb1 (q_sb1 q_sb0)))))) ?_
      cases hf
      exact q_Jpad (q_pdw [] rfl rfl) (q_pdw [] rfl rfl) (hK0 rfl)
    · have hf := q_in h1 hf
      obtain ⟨j2, hj2, hf⟩ := q_bd hf
      refine q_blf 4 [j2] (a := q_kc (t, r, m, z, N, ext, rx, L) I E 53 [some (.ref 474), some (.int v1), some (.int v2), some (.int v3), some (.int v4), none] [] [] []) (b := q_kc (t, r, m, z, N, ext, rx, L) I E 10 [some (.ref 474), some (.int v1), some (.int v2), some (.int v3), some (.int v4), none] [] [] []) (P := ¬ ((I 475) j2) = 0) ok_X1_add rfl (q_cc hj2 q_cn) (fun h3 => ?_) (fun h3 => ?_)
      · have hf := q_ip h3 hf
        refine q_blk 2 [] (c' := q_kc (t, r, m, z, N, ext, rx, L) I E 2 [some (.ref 474), some (.int v1), some (.int v2), some (.int v3), some (.int (v4 + 1)), none] [] [] []) ok_X1_add rfl q_cn ?_
        exact ih (I := q_ws I []) (E := q_ws E []) hf (fun hz => q_Jmrg (q_mgw rfl rfl) (q_mgw rfl rfl) (hK0 hz)) (fun hz => q_Jmrg (q_mgw rfl rfl) (q_mgw rfl rfl) (hK1 hz))
      · have hf := q_in h3 hf
        cases hf
        exact q_Jpad (q_pdw [] rfl rfl) (q_pdw [] rfl rfl) (hK1 rfl)
set_option maxHeartbeats 4000000 in
theorem lp_X1_add_L37_474 {g : q_G} {d mc ms : Nat} {h0 : q_H} {Q : (Option Value ⊕ String) → q_H → Prop} {k n : Nat} {t : Nat} {r : Nat} {m : Nat} {z : Nat} {N : Nat} {ext : Nat → q_Sh} {rx : Nat → Nat → Option Nat} {L : Nat → Nat → Int64} (hd : 1 ≤ d) (hk : k ≤ mc) (hn : n ≤ ms)  {v4 : Int32} : ∀ (fu : Nat) {I : Nat → Nat → Int32} {E : Nat → Nat → Option Nat} {v5 : Int32} {r0 : (Nat → Int32)} (hf : f_X1_add_L37 v4 fu (I 480) v5 = some r0) (hK0 : q_J g m_X1_add d mc ms h0 [] Q k n (q_kc (t, r, m, z, N, ext, rx, L) I E 51 [none, none, none, none, some (.int v4), none] [] [(480, r0)] [])), q_J g m_X1_add d mc ms h0 [] Q k n (37, [some (.ref 474), none, none, none, some (.int v4), some (.int v5)], [], q_hp (t, r, m, z, N, ext, rx, L) I E) := by
  intro fu
  induction fu with
  | zero =>
    intro I E v5 r0 hf hK0
    rw [f_X1_add_L37] at hf
    cases hf
  | succ fu ih =>
    intro I E v5 r0 hf hK0
    rw [f_X1_add_L37] at hf
    change q_J g m_X1_add d mc ms h0 [] Q k n (q_kc (t, r, m, z, N, ext, rx, L) I E 37 [some (.ref 474), none, none, none, some (.int v4), some (.int v5)] [] [] [])
    refine q_blf 2 [] (a := q_kc (t, r, m, z, N, ext, rx, L) I E 51 [some (.ref 474), none, none, none, some (.int v4), some (.int v5)] [] [] []) (b := q_kc (t, r, m, z, N, ext, rx, L) I E 40 [some (.ref 474), none, none, none, some (.int v4), some (.int v5)] [] [] []) (P := (3 : Int32) ≤ v5) ok_X1_add rfl q_cn (fun h4 => ?_) (fun h4 => ?_)
    · have hf := q_ip h4 hf
      refine q_less (ls' := [none, none, none, none, some (.int v4), none]) (q_sb1 (q_sb1 (q_sb1 (q_sb1 (q_sb2 (q_sb1 q_sb0)))))) ?_
      cases hf
      exact q_Jpad (q_pdw [480] rfl rfl) (q_pdw [] rfl rfl) hK0
    · have hf := q_in h4 hf
      obtain ⟨j5, hj5, hf⟩ := q_bd hf
      refine q_blk 11 [j5] (c' := q_kc (t, r, m, z, N, ext, rx, L) I E 37 [some (.ref 474), none, none, none, some (.int v4), some (.int (v5 + 1))] [] [(480, (q_up (I 480) j5 (-1 : Int32)))] []) ok_X1_add rfl (q_cc hj5 q_cn) ?_
      exact ih (I := q_ws I [(480, (q_up (I 480) j5 (-1 : Int32)))]) (E := q_ws E []) hf (q_Jmrg (q_mgw rfl rfl) (q_mgw rfl rfl) hK0)
set_option maxHeartbeats 4000000 in
theorem ct_X1_add_474 {g : q_G} {t : Nat} {r : Nat} {m : Nat} {z : Nat} {N : Nat} {ext : Nat → q_Sh} {rx : Nat → Nat → Option Nat} {L : Nat → Nat → Int64} {d : Nat} (hd : 1 ≤ d)  {I : Nat → Nat → Int32} {E : Nat → Nat → Option Nat} {x1 : Int32} {x2 : Int32} {x3 : Int32} {r0 : Int32 × (Nat → Int32) × (Nat → Int32) × (Nat → Int32) × (Nat → Int32) × (Nat → Int32) × (Nat → Int32)} (hf : f_X1_add (I 475) (I 476) (I 477) (I 478) (I 479) (I 480) x1 x2 x3 = some r0) : q_Ct g m_X1_add d 0 0 [] [.ref 474, .int x1, .int x2, .int x3] (q_hp (t, r, m, z, N, ext, rx, L) I E) (fun o h' => o = .inl (some (.int r0.1)) ∧ h' = q_hp (t, r, m, z, N, ext, rx, L) (q_ws I [(475, r0.2.1), (476, r0.2.2.1), (477, r0.2.2.2.1), (478, r0.2.2.2.2.1), (479, r0.2.2.2.2.2.1), (480, r0.2.2.2.2.2.2)]) (q_ws E [])) := by
  rw [f_X1_add] at hf
  refine q_Ct_of ok_X1_add (Nat.le_of_ble_eq_true rfl) ?_ _ rfl rfl
  change q_J g m_X1_add d 0 0 _ [] _ 0 0 (q_kc (t, r, m, z, N, ext, rx, L) I E 0 [some (.ref 474), some (.int x1), some (.int x2), some (.int x3), none, none] [] [] [])
  refine q_blk 2 [] (c' := q_kc (t, r, m, z, N, ext, rx, L) I E 2 [some (.ref 474), some (.int x1), some (.int x2), some (.int x3), some (.int (0 : Int32)), none] [] [] []) ok_X1_add rfl q_cn ?_
  obtain ⟨r6, hr6, hf⟩ := q_bd hf
  refine lp_X1_add_L2_474 (I := q_ws I []) (E := q_ws E []) hd (Nat.le_of_ble_eq_true rfl) (Nat.le_of_ble_eq_true rfl) 4096 hr6 ?_ ?_
  · intro hz0
    have hf := q_ip hz0 hf
    refine q_Jmrg (lI' := []) (lE' := []) (q_mgw rfl rfl) (q_mgw rfl rfl) ?_
    refine q_blk 1 [] (c' := q_kc (t, r, m, z, N, ext, rx, L) I E 56 [none, none, none, none, none, none] [.int (-1 : Int32)] [] []) ok_X1_add rfl q_cn ?_
    cases hf
    exact q_kri ok_X1_add rfl rfl rfl (Nat.le_of_ble_eq_true rfl) (Nat.le_of_ble_eq_true rfl) ⟨rfl, q_hpe (q_pdw [475, 476, 477, 478, 479, 480] rfl rfl) (q_pdw [] rfl rfl)⟩
  · intro hz1
    have hf := q_in (fun h9 => absurd (hz1.symm.trans h9) (by decide)) hf
    refine q_Jmrg (lI' := []) (lE' := []) (q_mgw rfl rfl) (q_mgw rfl rfl) ?_
    obtain ⟨j7, hj7, hf⟩ := q_bd hf
    obtain ⟨j8, hj8, hf⟩ := q_bd hf
    obtain ⟨j9, hj9, hf⟩ := q_bd hf
    obtain ⟨j10, hj10, hf⟩ := q_bd hf
    obtain ⟨j11, hj11, hf⟩ := q_bd hf
    refine q_blk 27 [j7, j8, j9, j10, j11] (c' := q_kc (t, r, m, z, N, ext, rx, L) I E 37 [some (.ref 474), some (.int x1), some (.int x2), some (.int x3), some (.int r6.2), some (.int (0 : Int32))] [] [(475, (q_up (I 475) j7 (1 : Int32))), (476, (q_up (I 476) j8 x1)), (477, (q_up (I 477) j9 x2)), (478, (q_up (I 478) j10 (0 : Int32))), (479, (q_up (I 479) j11 x3))] []) ok_X1_add rfl (q_cc hj11 (q_cc hj10 (q_cc hj9 (q_cc hj8 (q_cc hj7 q_cn))))) ?_
    refine q_less (ls' := [some (.ref 474), none, none, none, some (.int r6.2), some (.int (0 : Int32))]) (q_sb2 (q_sb1 (q_sb1 (q_sb1 (q_sb2 (q_sb2 q_sb0)))))) ?_
    obtain ⟨r12, hr12, hf⟩ := q_bd hf
    refine lp_X1_add_L37_474 (I := q_ws I [(475, (q_up (I 475) j7 (1 : Int32))), (476, (q_up (I 476) j8 x1)), (477, (q_up (I 477) j9 x2)), (478, (q_up (I 478) j10 (0 : Int32))), (479, (q_up (I 479) j11 x3))]) (E := q_ws E []) hd (Nat.le_of_ble_eq_true rfl) (Nat.le_of_ble_eq_true rfl) 4096 hr12 ?_
    refine q_Jmrg (lI' := [(475, (q_up (I 475) j7 (1 : Int32))), (476, (q_up (I 476) j8 x1)), (477, (q_up (I 477) j9 x2)), (478, (q_up (I 478) j10 (0 : Int32))), (479, (q_up (I 479) j11 x3)), (480, r12)]) (lE' := []) (q_mgw rfl rfl) (q_mgw rfl rfl) ?_
    refine q_blk 1 [] (c' := q_kc (t, r, m, z, N, ext, rx, L) I E 52 [none, none, none, none, some (.int r6.2), none] [.int r6.2] [(475, (q_up (I 475) j7 (1 : Int32))), (476, (q_up (I 476) j8 x1)), (477, (q_up (I 477) j9 x2)), (478, (q_up (I 478) j10 (0 : Int32))), (479, (q_up (I 479) j11 x3)), (480, r12)] []) ok_X1_add rfl q_cn ?_
    cases hf
    exact q_kri ok_X1_add rfl rfl rfl (Nat.le_of_ble_eq_true rfl) (Nat.le_of_ble_eq_true rfl) ⟨rfl, q_hpe (q_pdw [475, 476, 477, 478, 479, 480] rfl rfl) (q_pdw [] rfl rfl)⟩
