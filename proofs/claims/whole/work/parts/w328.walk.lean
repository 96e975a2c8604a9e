set_option maxHeartbeats 4000000 in
theorem lp_X14_goOn__L4_512 {g : q_G} {d mc ms : Nat} {h0 : q_H} {Q : (Option Value ⊕ String) → q_H → Prop} {kE nE : Nat} {t : Nat} {r : Nat} {ext : Nat → q_Sh} {rx : Nat → Nat → Option Nat} {L : Nat → Nat → Int64} (hd : 10 ≤ d)  {v1 : Int32} : ∀ (fu : Nat) {k n : Nat} {I : Nat → Nat → Int32} {E : Nat → Nat → Option Nat} {v2 : Int32} {v3 : Int32} {r0 : Int32 × (Nat → Int32) × (Nat → Int32) × (Nat → Int32) × (Nat → Int32) × (Nat → Int32) × (Nat → Int32) × (Nat → Int32) × (Nat → Int32) × (Nat → Int32) × (Nat → Int32) × (Nat → Int32) × (Nat → Int32)} (hk : k + fu * 1 ≤ kE) (hn : n + fu * 136 ≤ nE) (hk2 : kE ≤ mc) (hn2 : nE ≤ ms) (hf : f_X14_goOn__L4 (I 499) (I 500) (I 501) (I 502) (I 503) (I 504) (I 505) (I 506) (I 507) v1 fu (I 492) (I 509) (I 510) (I 511) (I 512) (I 513) (I 514) (I 515) (I 516) (I 517) (I 518) (I 519) v2 v3 = some r0) (hK0 : q_J g m_X14_goOn_ d mc ms h0 [] Q kE nE (q_kc (t, r, 1, 499, 529, ext, rx, L) I E 18 [none, none, some (.int r0.1), none] [] [(492, r0.2.1), (509, r0.2.2.1), (510, r0.2.2.2.1), (511, r0.2.2.2.2.1), (512, r0.2.2.2.2.2.1), (513, r0.2.2.2.2.2.2.1), (514, r0.2.2.2.2.2.2.2.1), (515, r0.2.2.2.2.2.2.2.2.1), (516, r0.2.2.2.2.2.2.2.2.2.1), (517, r0.2.2.2.2.2.2.2.2.2.2.1), (518, r0.2.2.2.2.2.2.2.2.2.2.2.1), (519, r0.2.2.2.2.2.2.2.2.2.2.2.2)] [])), q_J g m_X14_goOn_ d mc ms h0 [] Q k n (4, [some (.ref 512), some (.int v1), some (.int v2), some (.int v3)], [], q_hp (t, r, 1, 499, 529, ext, rx, L) I E) := by
  intro fu
  induction fu with
  | zero =>
    intro k n I E v2 v3 r0 hk hn hk2 hn2 hf hK0
    rw [f_X14_goOn__L4] at hf
    cases hf
  | succ fu ih =>
    intro k n I E v2 v3 r0 hk hn hk2 hn2 hf hK0
    rw [f_X14_goOn__L4] at hf
    change q_J g m_X14_goOn_ d mc ms h0 [] Q k n (q_kc (t, r, 1, 499, 529, ext, rx, L) I E 4 [some (.ref 512), some (.int v1), some (.int v2), some (.int v3)] [] [] [])
    refine q_blf 2 [] (a := q_kc (t, r, 1, 499, 529, ext, rx, L) I E 18 [some (.ref 512), some (.int v1), some (.int v2), some (.int v3)] [] [] []) (b := q_kc (t, r, 1, 499, 529, ext, rx, L) I E 7 [some (.ref 512), some (.int v1), some (.int v2), some (.int v3)] [] [] []) (P := v1 ≤ v3) ok_X14_goOn_ rfl q_cn (fun h1 => ?_) (fun h1 => ?_)
    · have hf := q_ip h1 hf
      refine q_less (ls' := [none, none, some (.int v2), none]) (q_sb1 (q_sb1 (q_sb2 (q_sb1 q_sb0)))) ?_
      cases hf
      exact q_Jwd (by omega) (by omega) <| q_Jpad (q_pdw [492, 509, 510, 511, 512, 513, 514, 515, 516, 517, 518, 519] rfl rfl) (q_pdw [] rfl rfl) hK0
    · have hf := q_in h1 hf
      refine q_blk 2 [] (c' := q_kc (t, r, 1, 499, 529, ext, rx, L) I E 9 [some (.ref 512), some (.int v1), some (.int v2), some (.int v3)] [.ref 512, .int v2] [] []) ok_X14_goOn_ rfl q_cn ?_
      obtain ⟨r2, hr2, hf⟩ := q_bd hf
      refine q_kV (M2 := m_X14_goOn) (As := []) (b := 512) (v2 := some (.int (q_bz r2.1))) ok_X14_goOn_ ok_X14_goOn cv_X14_goOn (ct_X14_goOn_512 (d := 9) (Nat.le_refl _) hr2) rfl rfl (Or.inl rfl) rfl rfl rfl rfl (Nat.le_trans (Nat.le_of_ble_eq_true rfl) hd) (by omega) (by omega) (Nat.le_of_ble_eq_true rfl) (fun x hx => absurd hx List.not_mem_nil) (q_nmL0 _) (q_nmS0 _) rfl (pos' := 10) (st' := [.int (q_bz r2.1), .int v2]) (lI' := [(492, r2.2.1), (509, r2.2.2.1), (510, r2.2.2.2.1), (511, r2.2.2.2.2.1), (512, r2.2.2.2.2.2.1), (513, r2.2.2.2.2.2.2.1), (514, r2.2.2.2.2.2.2.2.1), (515, r2.2.2.2.2.2.2.2.2.1), (516, r2.2.2.2.2.2.2.2.2.2.1), (517, r2.2.2.2.2.2.2.2.2.2.2.1), (518, r2.2.2.2.2.2.2.2.2.2.2.2.1), (519, r2.2.2.2.2.2.2.2.2.2.2.2.2)]) (lE' := []) rfl rfl (q_mgw rfl rfl) rfl ?_
      refine q_blf 0 [] (a := q_kc (t, r, 1, 499, 529, ext, rx, L) I E 13 [some (.ref 512), some (.int v1), some (.int v2), some (.int v3)] [.int v2] [(492, r2.2.1), (509, r2.2.2.1), (510, r2.2.2.2.1), (511, r2.2.2.2.2.1), (512, r2.2.2.2.2.2.1), (513, r2.2.2.2.2.2.2.1), (514, r2.2.2.2.2.2.2.2.1), (515, r2.2.2.2.2.2.2.2.2.1), (516, r2.2.2.2.2.2.2.2.2.2.1), (517, r2.2.2.2.2.2.2.2.2.2.2.1), (518, r2.2.2.2.2.2.2.2.2.2.2.2.1), (519, r2.2.2.2.2.2.2.2.2.2.2.2.2)] []) (b := q_kc (t, r, 1, 499, 529, ext, rx, L) I E 11 [some (.ref 512), some (.int v1), some (.int v2), some (.int v3)] [.int v2] [(492, r2.2.1), (509, r2.2.2.1), (510, r2.2.2.2.1), (511, r2.2.2.2.2.1), (512, r2.2.2.2.2.2.1), (513, r2.2.2.2.2.2.2.1), (514, r2.2.2.2.2.2.2.2.1), (515, r2.2.2.2.2.2.2.2.2.1), (516, r2.2.2.2.2.2.2.2.2.2.1), (517, r2.2.2.2.2.2.2.2.2.2.2.1), (518, r2.2.2.2.2.2.2.2.2.2.2.2.1), (519, r2.2.2.2.2.2.2.2.2.2.2.2.2)] []) (P := (q_bz r2.1) = 0) ok_X14_goOn_ rfl q_cn (fun h3 => ?_) (fun h3 => ?_)
      · have hf := q_ip h3 hf
        refine q_blk 5 [] (c' := q_kc (t, r, 1, 499, 529, ext, rx, L) I E 4 [some (.ref 512), some (.int v1), some (.int (v2 + (0 : Int32))), some (.int (v3 + 1))] [] [(492, r2.2.1), (509, r2.2.2.1), (510, r2.2.2.2.1), (511, r2.2.2.2.2.1), (512, r2.2.2.2.2.2.1), (513, r2.2.2.2.2.2.2.1), (514, r2.2.2.2.2.2.2.2.1), (515, r2.2.2.2.2.2.2.2.2.1), (516, r2.2.2.2.2.2.2.2.2.2.1), (517, r2.2.2.2.2.2.2.2.2.2.2.1), (518, r2.2.2.2.2.2.2.2.2.2.2.2.1), (519, r2.2.2.2.2.2.2.2.2.2.2.2.2)] []) ok_X14_goOn_ rfl q_cn ?_
        exact ih (I := q_ws I [(492, r2.2.1), (509, r2.2.2.1), (510, r2.2.2.2.1), (511, r2.2.2.2.2.1), (512, r2.2.2.2.2.2.1), (513, r2.2.2.2.2.2.2.1), (514, r2.2.2.2.2.2.2.2.1), (515, r2.2.2.2.2.2.2.2.2.1), (516, r2.2.2.2.2.2.2.2.2.2.1), (517, r2.2.2.2.2.2.2.2.2.2.2.1), (518, r2.2.2.2.2.2.2.2.2.2.2.2.1), (519, r2.2.2.2.2.2.2.2.2.2.2.2.2)]) (E := q_ws E []) (by omega) (by omega) hk2 hn2 hf (q_Jmrg (q_mgw rfl rfl) (q_mgw rfl rfl) hK0)
      · have hf := q_in h3 hf
        refine q_blk 6 [] (c' := q_kc (t, r, 1, 499, 529, ext, rx, L) I E 4 [some (.ref 512), some (.int v1), some (.int (v2 + (1 : Int32))), some (.int (v3 + 1))] [] [(492, r2.2.1), (509, r2.2.2.1), (510, r2.2.2.2.1), (511, r2.2.2.2.2.1), (512, r2.2.2.2.2.2.1), (513, r2.2.2.2.2.2.2.1), (514, r2.2.2.2.2.2.2.2.1), (515, r2.2.2.2.2.2.2.2.2.1), (516, r2.2.2.2.2.2.2.2.2.2.1), (517, r2.2.2.2.2.2.2.2.2.2.2.1), (518, r2.2.2.2.2.2.2.2.2.2.2.2.1), (519, r2.2.2.2.2.2.2.2.2.2.2.2.2)] []) ok_X14_goOn_ rfl q_cn ?_
        exact ih (I := q_ws I [(492, r2.2.1), (509, r2.2.2.1), (510, r2.2.2.2.1), (511, r2.2.2.2.2.1), (512, r2.2.2.2.2.2.1), (513, r2.2.2.2.2.2.2.1), (514, r2.2.2.2.2.2.2.2.1), (515, r2.2.2.2.2.2.2.2.2.1), (516, r2.2.2.2.2.2.2.2.2.2.1), (517, r2.2.2.2.2.2.2.2.2.2.2.1), (518, r2.2.2.2.2.2.2.2.2.2.2.2.1), (519, r2.2.2.2.2.2.2.2.2.2.2.2.2)]) (E := q_ws E []) (by omega) (by omega) hk2 hn2 hf (q_Jmrg (q_mgw rfl rfl) (q_mgw rfl rfl) hK0)
set_option maxHeartbeats 4000000 in
theorem ct_X14_goOn__512 {g : q_G} {t : Nat} {r : Nat} {ext : Nat → q_Sh} {rx : Nat → Nat → Option Nat} {L : Nat → Nat → Int64} {d : Nat} (hd : 10 ≤ d)  {I : Nat → Nat → Int32} {E : Nat → Nat → Option Nat} {x1 : Int32} {r0 : Int32 × (Nat → Int32) × (Nat → Int32) × (Nat → Int32) × (Nat → Int32) × (Nat → Int32) × (Nat → Int32) × (Nat → Int32) × (Nat → Int32) × (Nat → Int32) × (Nat → Int32) × (Nat → Int32) × (Nat → Int32)} (hf : f_X14_goOn_ (I 492) (I 499) (I 500) (I 501) (I 502) (I 503) (I 504) (I 505) (I 506) (I 507) (I 509) (I 510) (I 511) (I 512) (I 513) (I 514) (I 515) (I 516) (I 517) (I 518) (I 519) x1 = some r0) : q_Ct g m_X14_goOn_ d 101 13736 [] [.ref 512, .int x1] (q_hp (t, r, 1, 499, 529, ext, rx, L) I E) (fun o h' => o = .inl (some (.int r0.1)) ∧ h' = q_hp (t, r, 1, 499, 529, ext, rx, L) (q_ws I [(492, r0.2.1), (509, r0.2.2.1), (510, r0.2.2.2.1), (511, r0.2.2.2.2.1), (512, r0.2.2.2.2.2.1), (513, r0.2.2.2.2.2.2.1), (514, r0.2.2.2.2.2.2.2.1), (515, r0.2.2.2.2.2.2.2.2.1), (516, r0.2.2.2.2.2.2.2.2.2.1), (517, r0.2.2.2.2.2.2.2.2.2.2.1), (518, r0.2.2.2.2.2.2.2.2.2.2.2.1), (519, r0.2.2.2.2.2.2.2.2.2.2.2.2)]) (q_ws E [])) := by
  rw [f_X14_goOn_] at hf
  refine q_Ct_of ok_X14_goOn_ (Nat.le_of_ble_eq_true rfl) ?_ _ rfl rfl
  change q_J g m_X14_goOn_ d 101 13736 _ [] _ 0 0 (q_kc (t, r, 1, 499, 529, ext, rx, L) I E 0 [some (.ref 512), some (.int x1), none, none] [] [] [])
  refine q_blk 4 [] (c' := q_kc (t, r, 1, 499, 529, ext, rx, L) I E 4 [some (.ref 512), some (.int x1), some (.int (0 : Int32)), some (.int (0 : Int32))] [] [] []) ok_X14_goOn_ rfl q_cn ?_
  obtain ⟨r4, hr4, hf⟩ := q_bd hf
  refine lp_X14_goOn__L4_512 (I := q_ws I []) (E := q_ws E []) (kE := 101) (nE := 13736) hd 101 (Nat.le_of_ble_eq_true rfl) (Nat.le_of_ble_eq_true rfl) (Nat.le_of_ble_eq_true rfl) (Nat.le_of_ble_eq_true rfl) hr4 ?_
  refine q_Jmrg (lI' := [(492, r4.2.1), (509, r4.2.2.1), (510, r4.2.2.2.1), (511, r4.2.2.2.2.1), (512, r4.2.2.2.2.2.1), (513, r4.2.2.2.2.2.2.1), (514, r4.2.2.2.2.2.2.2.1), (515, r4.2.2.2.2.2.2.2.2.1), (516, r4.2.2.2.2.2.2.2.2.2.1), (517, r4.2.2.2.2.2.2.2.2.2.2.1), (518, r4.2.2.2.2.2.2.2.2.2.2.2.1), (519, r4.2.2.2.2.2.2.2.2.2.2.2.2)]) (lE' := []) (q_mgw rfl rfl) (q_mgw rfl rfl) ?_
  refine q_blk 1 [] (c' := q_kc (t, r, 1, 499, 529, ext, rx, L) I E 19 [none, none, some (.int r4.1), none] [.int r4.1] [(492, r4.2.1), (509, r4.2.2.1), (510, r4.2.2.2.1), (511, r4.2.2.2.2.1), (512, r4.2.2.2.2.2.1), (513, r4.2.2.2.2.2.2.1), (514, r4.2.2.2.2.2.2.2.1), (515, r4.2.2.2.2.2.2.2.2.1), (516, r4.2.2.2.2.2.2.2.2.2.1), (517, r4.2.2.2.2.2.2.2.2.2.2.1), (518, r4.2.2.2.2.2.2.2.2.2.2.2.1), (519, r4.2.2.2.2.2.2.2.2.2.2.2.2)] []) ok_X14_goOn_ rfl q_cn ?_
  cases hf
  exact q_kri ok_X14_goOn_ rfl rfl rfl (Nat.le_of_ble_eq_true rfl) (Nat.le_of_ble_eq_true rfl) ⟨rfl, q_hpe (q_pdw [492, 509, 510, 511, 512, 513, 514, 515, 516, 517, 518, 519] rfl rfl) (q_pdw [] rfl rfl)⟩
set_option maxHeartbeats 4000000 in
theorem ct_X15_work_492 {g : q_G} {t : Nat} {r : Nat} {ext : Nat → q_Sh} {rx : Nat → Nat → Option Nat} {L : Nat → Nat → Int64} {d : Nat} (hd : 11 ≤ d)  {I : Nat → Nat → Int32} {E : Nat → Nat → Option Nat} {x1 : Int32} {r0 : Int32 × (Nat → Int32) × (Nat → Int32) × (Nat → Int32) × (Nat → Int32) × (Nat → Int32) × (Nat → Int32) × (Nat → Int32) × (Nat → Int32) × (Nat → Int32) × (Nat → Int32) × (Nat → Int32) × (Nat → Int32)} (hf : f_X15_work (I 492) (I 499) (I 500) (I 501) (I 502) (I 503) (I 504) (I 505) (I 506) (I 507) (I 509) (I 510) (I 511) (I 512) (I 513) (I 514) (I 515) (I 516) (I 517) (I 518) (I 519) x1 = some r0) : q_Ct g m_X15_work d 101 13736 [] [.ref 492, .int x1] (q_hp (t, r, 1, 499, 529, ext, rx, L) I E) (fun o h' => o = .inl (some (.int r0.1)) ∧ h' = q_hp (t, r, 1, 499, 529, ext, rx, L) (q_ws I [(492, r0.2.1), (509, r0.2.2.1), (510, r0.2.2.2.1), (511, r0.2.2.2.2.1), (512, r0.2.2.2.2.2.1), (513, r0.2.2.2.2.2.2.1), (514, r0.2.2.2.2.2.2.2.1), (515, r0.2.2.2.2.2.2.2.2.1), (516, r0.2.2.2.2.2.2.2.2.2.1), (517, r0.2.2.2.2.2.2.2.2.2.2.1), (518, r0.2.2.2.2.2.2.2.2.2.2.2.1), (519, r0.2.2.2.2.2.2.2.2.2.2.2.2)]) (q_ws E [])) := by
  rw [f_X15_work] at hf
  refine q_Ct_of ok_X15_work (Nat.le_of_ble_eq_true rfl) ?_ _ rfl rfl
  change q_J g m_X15_work d 101 13736 _ [] _ 0 0 (q_kc (t, r, 1, 499, 529, ext, rx, L) I E 0 [some (.ref 492), some (.int x1)] [] [] [])
  refine q_blk 6 [] (c' := q_kc (t, r, 1, 499, 529, ext, rx, L) I E 6 [some (.ref 492), some (.int x1)] [.int (100 : Int32), .int (1 : Int32), .int x1] [(492, (q_up (I 492) 0 (0 : Int32)))] []) ok_X15_work rfl q_cn ?_
  obtain ⟨r1, hr1, hf⟩ := q_bd hf
  refine q_kS (M2 := m_X15_isIn) (As := [.int x1, .int (1 : Int32), .int (100 : Int32)]) (v2 := some (.int (q_bz r1))) ok_X15_work ok_X15_isIn cs_X15_isIn (ct_X15_isIn (d := 1) (Nat.le_refl _) hr1) rfl rfl (Or.inl rfl) (Nat.le_trans (Nat.le_of_ble_eq_true rfl) hd) (Nat.le_of_ble_eq_true rfl) (Nat.le_of_ble_eq_true rfl) (Nat.le_of_ble_eq_true rfl) (fun x hx => absurd hx List.not_mem_nil) (q_nmL0 _) (q_nmS0 _) rfl (pos' := 7) (st' := [.int (q_bz r1)]) (lI' := [(492, (q_up (I 492) 0 (0 : Int32)))]) (lE' := []) rfl rfl rfl rfl ?_
  refine q_blf 0 [] (a := q_kc (t, r, 1, 499, 529, ext, rx, L) I E 12 [some (.ref 492), some (.int x1)] [] [(492, (q_up (I 492) 0 (0 : Int32)))] []) (b := q_kc (t, r, 1, 499, 529, ext, rx, L) I E 8 [some (.ref 492), some (.int x1)] [] [(492, (q_up (I 492) 0 (0 : Int32)))] []) (P := ¬ (q_bz r1) = 0) ok_X15_work rfl q_cn (fun h2 => ?_) (fun h2 => ?_)
  · have hf := q_ip h2 hf
    refine q_blf 3 [] (a := q_kc (t, r, 1, 499, 529, ext, rx, L) I E 20 [some (.ref 492), some (.int x1)] [] [(492, (q_up (I 492) 0 (0 : Int32)))] []) (b := q_kc (t, r, 1, 499, 529, ext, rx, L) I E 16 [some (.ref 492), some (.int x1)] [] [(492, (q_up (I 492) 0 (0 : Int32)))] []) (P := ¬ ((I 499) 4) = 0) ok_X15_work rfl q_cn (fun h3 => ?_) (fun h3 => ?_)
    · have hf := q_ip h3 hf
      refine q_blk 3 [] (c' := q_kc (t, r, 1, 499, 529, ext, rx, L) I E 23 [some (.ref 492), some (.int x1)] [.int x1, .ref 512] [(492, (q_up (I 492) 0 (0 : Int32)))] []) ok_X15_work rfl q_cn ?_
      obtain ⟨r4, hr4, hf⟩ := q_bd hf
      refine q_kV (M2 := m_X14_goOn_) (As := [.int x1]) (b := 512) (v2 := some (.int r4.1)) ok_X15_work ok_X14_goOn_ cv_X14_goOn_ (ct_X14_goOn__512 (d := 10) (Nat.le_refl _) hr4) rfl rfl (Or.inl rfl) rfl rfl rfl rfl (Nat.le_trans (Nat.le_of_ble_eq_true rfl) hd) (Nat.le_of_ble_eq_true rfl) (Nat.le_of_ble_eq_true rfl) (Nat.le_of_ble_eq_true rfl) (fun x hx => absurd hx List.not_mem_nil) (q_nmL0 _) (q_nmS0 _) rfl (pos' := 24) (st' := [.int r4.1]) (lI' := [(492, r4.2.1), (509, r4.2.2.1), (510, r4.2.2.2.1), (511, r4.2.2.2.2.1), (512, r4.2.2.2.2.2.1), (513, r4.2.2.2.2.2.2.1), (514, r4.2.2.2.2.2.2.2.1), (515, r4.2.2.2.2.2.2.2.2.1), (516, r4.2.2.2.2.2.2.2.2.2.1), (517, r4.2.2.2.2.2.2.2.2.2.2.1), (518, r4.2.2.2.2.2.2.2.2.2.2.2.1), (519, r4.2.2.2.2.2.2.2.2.2.2.2.2)]) (lE' := []) rfl rfl (q_mgw rfl rfl) rfl ?_
      cases hf
      exact q_kri ok_X15_work rfl rfl rfl (Nat.le_of_ble_eq_true rfl) (Nat.le_of_ble_eq_true rfl) ⟨rfl, q_hpe (q_pdw [492, 509, 510, 511, 512, 513, 514, 515, 516, 517, 518, 519] rfl rfl) (q_pdw [] rfl rfl)⟩
    · have hf := q_in h3 hf
      refine q_blk 2 [] (c' := q_kc (t, r, 1, 499, 529, ext, rx, L) I E 18 [some (.ref 492), some (.int x1)] [.int (2 : Int32), .ref 492] [(492, (q_up (I 492) 0 (0 : Int32)))] []) ok_X15_work rfl q_cn ?_
      obtain ⟨r5, hr5, hf⟩ := q_bd hf
      refine q_kV (M2 := m_X15_no) (As := [.int (2 : Int32)]) (b := 492) (v2 := some (.int r5.1)) ok_X15_work ok_X15_no cv_X15_no (ct_X15_no_492 (d := 1) (Nat.le_refl _) hr5) rfl rfl (Or.inl rfl) rfl rfl rfl rfl (Nat.le_trans (Nat.le_of_ble_eq_true rfl) hd) (Nat.le_of_ble_eq_true rfl) (Nat.le_of_ble_eq_true rfl) (Nat.le_of_ble_eq_true rfl) (fun x hx => absurd hx List.not_mem_nil) (q_nmL0 _) (q_nmS0 _) rfl (pos' := 19) (st' := [.int r5.1]) (lI' := [(492, r5.2)]) (lE' := []) rfl rfl (q_mgw rfl rfl) rfl ?_
      refine q_blk 1 [] (c' := q_kc (t, r, 1, 499, 529, ext, rx, L) I E 24 [some (.ref 492), some (.int x1)] [.int r5.1] [(492, r5.2)] []) ok_X15_work rfl q_cn ?_
      cases hf
      exact q_kri ok_X15_work rfl rfl rfl (Nat.le_of_ble_eq_true rfl) (Nat.le_of_ble_eq_true rfl) ⟨rfl, q_hpe (q_pdw [492, 509, 510, 511, 512, 513, 514, 515, 516, 517, 518, 519] rfl rfl) (q_pdw [] rfl rfl)⟩
  · have hf := q_in h2 hf
    refine q_blk 2 [] (c' := q_kc (t, r, 1, 499, 529, ext, rx, L) I E 10 [some (.ref 492), some (.int x1)] [.int (1 : Int32), .ref 492] [(492, (q_up (I 492) 0 (0 : Int32)))] []) ok_X15_work rfl q_cn ?_
    obtain ⟨r6, hr6, hf⟩ := q_bd hf
    refine q_kV (M2 := m_X15_no) (As := [.int (1 : Int32)]) (b := 492) (v2 := some (.int r6.1)) ok_X15_work ok_X15_no cv_X15_no (ct_X15_no_492 (d := 1) (Nat.le_refl _) hr6) rfl rfl (Or.inl rfl) rfl rfl rfl rfl (Nat.le_trans (Nat.le_of_ble_eq_true rfl) hd) (Nat.le_of_ble_eq_true rfl) (Nat.le_of_ble_eq_true rfl) (Nat.le_of_ble_eq_true rfl) (fun x hx => absurd hx List.not_mem_nil) (q_nmL0 _) (q_nmS0 _) rfl (pos' := 11) (st' := [.int r6.1]) (lI' := [(492, r6.2)]) (lE' := []) rfl rfl (q_mgw rfl rfl) rfl ?_
    cases hf
    exact q_kri ok_X15_work rfl rfl rfl (Nat.le_of_ble_eq_true rfl) (Nat.le_of_ble_eq_true rfl) ⟨rfl, q_hpe (q_pdw [492, 509, 510, 511, 512, 513, 514, 515, 516, 517, 518, 519] rfl rfl) (q_pdw [] rfl rfl)⟩
set_option maxHeartbeats 4000000 in
theorem ct_X14_copy_520_513_521 {g : q_G} {t : Nat} {r : Nat} {m : Nat} {z : Nat} {N : Nat} {ext : Nat → q_Sh} {rx : Nat → Nat → Option Nat} {L : Nat → Nat → Int64} {d : Nat} (hd : 2 ≤ d)  {I : Nat → Nat → Int32} {E : Nat → Nat → Option Nat} {r0 : (Nat → Int32)} (hf : f_X14_copy__2 (I 513) (I 521) = some r0) : q_Ct g m_X14_copy d 0 0 [] [.ref 520, .ref 513, .ref 521] (q_hp (t, r, m, z, N, ext, rx, L) I E) (fun o h' => o = .inl none ∧ h' = q_hp (t, r, m, z, N, ext, rx, L) (q_ws I [(521, r0)]) (q_ws E [])) := by
  rw [f_X14_copy__2] at hf
  refine q_Ct_of ok_X14_copy (Nat.le_of_ble_eq_true rfl) ?_ _ rfl rfl
  change q_J g m_X14_copy d 0 0 _ [] _ 0 0 (q_kc (t, r, m, z, N, ext, rx, L) I E 0 [some (.ref 520), some (.ref 513), some (.ref 521)] [] [] [])
  refine q_blk 6 [] (c' := q_kc (t, r, m, z, N, ext, rx, L) I E 6 [some (.ref 520), some (.ref 513), some (.ref 521)] [.int (nI 6), .int (0 : Int32), .ref 521, .int (0 : Int32), .ref 513] [] []) ok_X14_copy rfl q_cn ?_
  refine q_kcp (c := 6) (pos' := 7) (lI' := [(521, (q_cp (I 513) (I 521) 6))]) ok_X14_copy rfl rfl (Nat.le_trans (Nat.le_of_ble_eq_true rfl) hd) (Nat.le_of_ble_eq_true rfl) rfl rfl rfl rfl rfl rfl rfl rfl rfl rfl ?_
  cases hf
  exact q_krv ok_X14_copy rfl rfl (Nat.le_of_ble_eq_true rfl) (Nat.le_of_ble_eq_true rfl) ⟨rfl, q_hpe (q_pdw [521] rfl rfl) (q_pdw [] rfl rfl)⟩
set_option maxHeartbeats 4000000 in
theorem ct_X14_copy_520_514_522 {g : q_G} {t : Nat} {r : Nat} {m : Nat} {z : Nat} {N : Nat} {ext : Nat → q_Sh} {rx : Nat → Nat → Option Nat} {L : Nat → Nat → Int64} {d : Nat} (hd : 2 ≤ d)  {I : Nat → Nat → Int32} {E : Nat → Nat → Option Nat} {r0 : (Nat → Int32)} (hf : f_X14_copy__3 (I 514) (I 522) = some r0) : q_Ct g m_X14_copy d 0 0 [] [.ref 520, .ref 514, .ref 522] (q_hp (t, r, m, z, N, ext, rx, L) I E) (fun o h' => o = .inl none ∧ h' = q_hp (t, r, m, z, N, ext, rx, L) (q_ws I [(522, r0)]) (q_ws E [])) := by
  rw [f_X14_copy__3] at hf
  refine q_Ct_of ok_X14_copy (Nat.le_of_ble_eq_true rfl) ?_ _ rfl rfl
  change q_J g m_X14_copy d 0 0 _ [] _ 0 0 (q_kc (t, r, m, z, N, ext, rx, L) I E 0 [some (.ref 520), some (.ref 514), some (.ref 522)] [] [] [])
  refine q_blk 6 [] (c' := q_kc (t, r, m, z, N, ext, rx, L) I E 6 [some (.ref 520), some (.ref 514), some (.ref 522)] [.int (nI 136), .int (0 : Int32), .ref 522, .int (0 : Int32), .ref 514] [] []) ok_X14_copy rfl q_cn ?_
  refine q_kcp (c := 136) (pos' := 7) (lI' := [(522, (q_cp (I 514) (I 522) 136))]) ok_X14_copy rfl rfl (Nat.le_trans (Nat.le_of_ble_eq_true rfl) hd) (Nat.le_of_ble_eq_true rfl) rfl rfl rfl rfl rfl rfl rfl rfl rfl rfl ?_
  cases hf
  exact q_krv ok_X14_copy rfl rfl (Nat.le_of_ble_eq_true rfl) (Nat.le_of_ble_eq_true rfl) ⟨rfl, q_hpe (q_pdw [522] rfl rfl) (q_pdw [] rfl rfl)⟩
set_option maxHeartbeats 4000000 in
theorem ct_X14_copy_520_515_523 {g : q_G} {t : Nat} {r : Nat} {m : Nat} {z : Nat} {N : Nat} {ext : Nat → q_Sh} {rx : Nat → Nat → Option Nat} {L : Nat → Nat → Int64} {d : Nat} (hd : 2 ≤ d)  {I : Nat → Nat → Int32} {E : Nat → Nat → Option Nat} {r0 : (Nat → Int32)} (hf : f_X14_copy__4 (I 515) (I 523) = some r0) : q_Ct g m_X14_copy d 0 0 [] [.ref 520, .ref 515, .ref 523] (q_hp (t, r, m, z, N, ext, rx, L) I E) (fun o h' => o = .inl none ∧ h' = q_hp (t, r, m, z, N, ext, rx, L) (q_ws I [(523, r0)]) (q_ws E [])) := by
  rw [f_X14_copy__4] at hf
  refine q_Ct_of ok_X14_copy (Nat.le_of_ble_eq_true rfl) ?_ _ rfl rfl
  change q_J g m_X14_copy d 0 0 _ [] _ 0 0 (q_kc (t, r, m, z, N, ext, rx, L) I E 0 [some (.ref 520), some (.ref 515), some (.ref 523)] [] [] [])
  refine q_blk 6 [] (c' := q_kc (t, r, m, z, N, ext, rx, L) I E 6 [some (.ref 520), some (.ref 515), some (.ref 523)] [.int (nI 136), .int (0 : Int32), .ref 523, .int (0 : Int32), .ref 515] [] []) ok_X14_copy rfl q_cn ?_
  refine q_kcp (c := 136) (pos' := 7) (lI' := [(523, (q_cp (I 515) (I 523) 136))]) ok_X14_copy rfl rfl (Nat.le_trans (Nat.le_of_ble_eq_true rfl) hd) (Nat.le_of_ble_eq_true rfl) rfl rfl rfl rfl rfl rfl rfl rfl rfl rfl ?_
  cases hf
  exact q_krv ok_X14_copy rfl rfl (Nat.le_of_ble_eq_true rfl) (Nat.le_of_ble_eq_true rfl) ⟨rfl, q_hpe (q_pdw [523] rfl rfl) (q_pdw [] rfl rfl)⟩
set_option maxHeartbeats 4000000 in
theorem ct_X14_copy_520_516_524 {g : q_G} {t : Nat} {r : Nat} {m : Nat} {z : Nat} {N : Nat} {ext : Nat → q_Sh} {rx : Nat → Nat → Option Nat} {L : Nat → Nat → Int64} {d : Nat} (hd : 2 ≤ d)  {I : Nat → Nat → Int32} {E : Nat → Nat → Option Nat} {r0 : (Nat → Int32)} (hf : f_X14_copy__5 (I 516) (I 524) = some r0) : q_Ct g m_X14_copy d 0 0 [] [.ref 520, .ref 516, .ref 524] (q_hp (t, r, m, z, N, ext, rx, L) I E) (fun o h' => o = .inl none ∧ h' = q_hp (t, r, m, z, N, ext, rx, L) (q_ws I [(524, r0)]) (q_ws E [])) := by
  rw [f_X14_copy__5] at hf
  refine q_Ct_of ok_X14_copy (Nat.le_of_ble_eq_true rfl) ?_ _ rfl rfl
  change q_J g m_X14_copy d 0 0 _ [] _ 0 0 (q_kc (t, r, m, z, N, ext, rx, L) I E 0 [some (.ref 520), some (.ref 516), some (.ref 524)] [] [] [])
  refine q_blk 6 [] (c' := q_kc (t, r, m, z, N, ext, rx, L) I E 6 [some (.ref 520), some (.ref 516), some (.ref 524)] [.int (nI 136), .int (0 : Int32), .ref 524, .int (0 : Int32), .ref 516] [] []) ok_X14_copy rfl q_cn ?_
  refine q_kcp (c := 136) (pos' := 7) (lI' := [(524, (q_cp (I 516) (I 524) 136))]) ok_X14_copy rfl rfl (Nat.le_trans (Nat.le_of_ble_eq_true rfl) hd) (Nat.le_of_ble_eq_true rfl) rfl rfl rfl rfl rfl rfl rfl rfl rfl rfl ?_
  cases hf
  exact q_krv ok_X14_copy rfl rfl (Nat.le_of_ble_eq_true rfl) (Nat.le_of_ble_eq_true rfl) ⟨rfl, q_hpe (q_pdw [524] rfl rfl) (q_pdw [] rfl rfl)⟩
set_option maxHeartbeats 4000000 in
theorem ct_X14_copy_520_517_525 {g : q_G} {t : Nat} {r : Nat} {m : Nat} {z : Nat} {N : Nat} {ext : Nat → q_Sh} {rx : Nat → Nat → Option Nat} {L : Nat → Nat → Int64} {d : Nat} (hd : 2 ≤ d)  {I : Nat → Nat → Int32} {E : Nat → Nat → Option Nat} {r0 : (Nat → Int32)} (hf : f_X14_copy__6 (I 517) (I 525) = some r0) : q_Ct g m_X14_copy d 0 0 [] [.ref 520, .ref 517, .ref 525] (q_hp (t, r, m, z, N, ext, rx, L) I E) (fun o h' => o = .inl none ∧ h' = q_hp (t, r, m, z, N, ext, rx, L) (q_ws I [(525, r0)]) (q_ws E [])) := by
  rw [f_X14_copy__6] at hf
  refine q_Ct_of ok_X14_copy (Nat.le_of_ble_eq_true rfl) ?_ _ rfl rfl
  change q_J g m_X14_copy d 0 0 _ [] _ 0 0 (q_kc (t, r, m, z, N, ext, rx, L) I E 0 [some (.ref 520), some (.ref 517), some (.ref 525)] [] [] [])
  refine q_blk 6 [] (c' := q_kc (t, r, m, z, N, ext, rx, L) I E 6 [some (.ref 520), some (.ref 517), some (.ref 525)] [.int (nI 136), .int (0 : Int32), .ref 525, .int (0 : Int32), .ref 517] [] []) ok_X14_copy rfl q_cn ?_
  refine q_kcp (c := 136) (pos' := 7) (lI' := [(525, (q_cp (I 517) (I 525) 136))]) ok_X14_copy rfl rfl (Nat.le_trans (Nat.le_of_ble_eq_true rfl) hd) (Nat.le_of_ble_eq_true rfl) rfl rfl rfl rfl rfl rfl rfl rfl rfl rfl ?_
  cases hf
  exact q_krv ok_X14_copy rfl rfl (Nat.le_of_ble_eq_true rfl) (Nat.le_of_ble_eq_true rfl) ⟨rfl, q_hpe (q_pdw [525] rfl rfl) (q_pdw [] rfl rfl)⟩
set_option maxHeartbeats 4000000 in
theorem ct_X14_copy_520_518_526 {g : q_G} {t : Nat} {r : Nat} {m : Nat} {z : Nat} {N : Nat} {ext : Nat → q_Sh} {rx : Nat → Nat → Option Nat} {L : Nat → Nat → Int64} {d : Nat} (hd : 2 ≤ d)  {I : Nat → Nat → Int32} {E : Nat → Nat → Option Nat} {r0 : (Nat → Int32)} (hf : f_X14_copy__7 (I 518) (I 526) = some r0) : q_Ct g m_X14_copy d 0 0 [] [.ref 520, .ref 518, .ref 526] (q_hp (t, r, m, z, N, ext, rx, L) I E) (fun o h' => o = .inl none ∧ h' = q_hp (t, r, m, z, N, ext, rx, L) (q_ws I [(526, r0)]) (q_ws E [])) := by
  rw [f_X14_copy__7] at hf
  refine q_Ct_of ok_X14_copy (Nat.le_of_ble_eq_true rfl) ?_ _ rfl rfl
  change q_J g m_X14_copy d 0 0 _ [] _ 0 0 (q_kc (t, r, m, z, N, ext, rx, L) I E 0 [some (.ref 520), some (.ref 518), some (.ref 526)] [] [] [])
  refine q_blk 6 [] (c' := q_kc (t, r, m, z, N, ext, rx, L) I E 6 [some (.ref 520), some (.ref 518), some (.ref 526)] [.int (nI 136), .int (0 : Int32), .ref 526, .int (0 : Int32), .ref 518] [] []) ok_X14_copy rfl q_cn ?_
  refine q_kcp (c := 136) (pos' := 7) (lI' := [(526, (q_cp (I 518) (I 526) 136))]) ok_X14_copy rfl rfl (Nat.le_trans (Nat.le_of_ble_eq_true rfl) hd) (Nat.le_of_ble_eq_true rfl) rfl rfl rfl rfl rfl rfl rfl rfl rfl rfl ?_
  cases hf
  exact q_krv ok_X14_copy rfl rfl (Nat.le_of_ble_eq_true rfl) (Nat.le_of_ble_eq_true rfl) ⟨rfl, q_hpe (q_pdw [526] rfl rfl) (q_pdw [] rfl rfl)⟩
set_option maxHeartbeats 4000000 in
theorem ct_X14_copy_520_519_527 {g : q_G} {t : Nat} {r : Nat} {m : Nat} {z : Nat} {N : Nat} {ext : Nat → q_Sh} {rx : Nat → Nat → Option Nat} {L : Nat → Nat → Int64} {d : Nat} (hd : 2 ≤ d)  {I : Nat → Nat → Int32} {E : Nat → Nat → Option Nat} {r0 : (Nat → Int32)} (hf : f_X14_copy__8 (I 519) (I 527) = some r0) : q_Ct g m_X14_copy d 0 0 [] [.ref 520, .ref 519, .ref 527] (q_hp (t, r, m, z, N, ext, rx, L) I E) (fun o h' => o = .inl none ∧ h' = q_hp (t, r, m, z, N, ext, rx, L) (q_ws I [(527, r0)]) (q_ws E [])) := by
  rw [f_X14_copy__8] at hf
  refine q_Ct_of ok_X14_copy (Nat.le_of_ble_eq_true rfl) ?_ _ rfl rfl
  change q_J g m_X14_copy d 0 0 _ [] _ 0 0 (q_kc (t, r, m, z, N, ext, rx, L) I E 0 [some (.ref 520), some (.ref 519), some (.ref 527)] [] [] [])
  refine q_blk 6 [] (c' := q_kc (t, r, m, z, N, ext, rx, L) I E 6 [some (.ref 520), some (.ref 519), some (.ref 527)] [.int (nI 408), .int (0 : Int32), .ref 527, .int (0 : Int32), .ref 519] [] []) ok_X14_copy rfl q_cn ?_
  refine q_kcp (c := 408) (pos' := 7) (lI' := [(527, (q_cp (I 519) (I 527) 408))]) ok_X14_copy rfl rfl (Nat.le_trans (Nat.le_of_ble_eq_true rfl) hd) (Nat.le_of_ble_eq_true rfl) rfl rfl rfl rfl rfl rfl rfl rfl rfl rfl ?_
  cases hf
  exact q_krv ok_X14_copy rfl rfl (Nat.le_of_ble_eq_true rfl) (Nat.le_of_ble_eq_true rfl) ⟨rfl, q_hpe (q_pdw [527] rfl rfl) (q_pdw [] rfl rfl)⟩
set_option maxHeartbeats 4000000 in
theorem ct_X14_become_520_512 {g : q_G} {t : Nat} {r : Nat} {m : Nat} {z : Nat} {N : Nat} {ext : Nat → q_Sh} {rx : Nat → Nat → Option Nat} {L : Nat → Nat → Int64} {d : Nat} (hd : 3 ≤ d)  {I : Nat → Nat → Int32} {E : Nat → Nat → Option Nat} {r0 : (Nat → Int32) × (Nat → Int32) × (Nat → Int32) × (Nat → Int32) × (Nat → Int32) × (Nat → Int32) × (Nat → Int32) × (Nat → Int32)} (hf : f_X14_become (I 512) (I 513) (I 514) (I 515) (I 516) (I 517) (I 518) (I 519) (I 520) (I 521) (I 522) (I 523) (I 524) (I 525) (I 526) (I 527) = some r0) : q_Ct g m_X14_become d 0 0 [] [.ref 520, .ref 512] (q_hp (t, r, m, z, N, ext, rx, L) I E) (fun o h' => o = .inl (some (.ref 520)) ∧ h' = q_hp (t, r, m, z, N, ext, rx, L) (q_ws I [(520, r0.1), (521, r0.2.1), (522, r0.2.2.1), (523, r0.2.2.2.1), (524, r0.2.2.2.2.1), (525, r0.2.2.2.2.2.1), (526, r0.2.2.2.2.2.2.1), (527, r0.2.2.2.2.2.2.2)]) (q_ws E [])) := by
  rw [f_X14_become] at hf
  refine q_Ct_of ok_X14_become (Nat.le_of_ble_eq_true rfl) ?_ _ rfl rfl
  change q_J g m_X14_become d 0 0 _ [] _ 0 0 (q_kc (t, r, m, z, N, ext, rx, L) I E 0 [some (.ref 520), some (.ref 512)] [] [] [])
  refine q_blk 29 [] (c' := q_kc (t, r, m, z, N, ext, rx, L) I E 29 [some (.ref 520), some (.ref 512)] [.ref 521, .ref 513, .ref 520] [(520, (q_up (q_up (q_up (q_up (q_up (q_up (I 520) 0 ((I 512) 0)) 1 ((I 512) 1)) 2 ((I 512) 2)) 3 ((I 512) 3)) 4 ((I 512) 4)) 5 ((I 512) 5)))] []) ok_X14_become rfl q_cn ?_
  obtain ⟨r1, hr1, hf⟩ := q_bd hf
  refine q_kV (M2 := m_X14_copy) (As := [.ref 513, .ref 521]) (b := 520) (v2 := none) ok_X14_become ok_X14_copy cv_X14_copy (ct_X14_copy_520_513_521 (d := 2) (Nat.le_refl _) hr1) rfl rfl (Or.inl rfl) rfl rfl rfl rfl (Nat.le_trans (Nat.le_of_ble_eq_true rfl) hd) (Nat.le_of_ble_eq_true rfl) (Nat.le_of_ble_eq_true rfl) (Nat.le_of_ble_eq_true rfl) (fun x hx => absurd hx List.not_mem_nil) (q_nmL0 _) (q_nmS0 _) rfl (pos' := 30) (st' := []) (lI' := [(520, (q_up (q_up (q_up (q_up (q_up (q_up (I 520) 0 ((I 512) 0)) 1 ((I 512) 1)) 2 ((I 512) 2)) 3 ((I 512) 3)) 4 ((I 512) 4)) 5 ((I 512) 5))), (521, r1)]) (lE' := []) rfl rfl (q_mgw rfl rfl) rfl ?_
  refine q_blk 5 [] (c' := q_kc (t, r, m, z, N, ext, rx, L) I E 35 [some (.ref 520), some (.ref 512)] [.ref 522, .ref 514, .ref 520] [(520, (q_up (q_up (q_up (q_up (q_up (q_up (I 520) 0 ((I 512) 0)) 1 ((I 512) 1)) 2 ((I 512) 2)) 3 ((I 512) 3)) 4 ((I 512) 4)) 5 ((I 512) 5))), (521, r1)] []) ok_X14_become rfl q_cn ?_
  obtain ⟨r2, hr2, hf⟩ := q_bd hf
  refine q_kV (M2 := m_X14_copy) (As := [.ref 514, .ref 522]) (b := 520) (v2 := none) ok_X14_become ok_X14_copy cv_X14_copy (ct_X14_copy_520_514_522 (d := 2) (Nat.le_refl _) hr2) rfl rfl (Or.inl rfl) rfl rfl rfl rfl (Nat.le_trans (Nat.le_of_ble_eq_true rfl) hd) (Nat.le_of_ble_eq_true rfl) (Nat.le_of_ble_eq_true rfl) (Nat.le_of_ble_eq_true rfl) (fun x hx => absurd hx List.not_mem_nil) (q_nmL0 _) (q_nmS0 _) rfl (pos' := 36) (st' := []) (lI' := [(520, (q_up (q_up (q_up (q_up (q_up (q_up (I 520) 0 ((I 512) 0)) 1 ((I 512) 1)) 2 ((I 512) 2)) 3 ((I 512) 3)) 4 ((I 512) 4)) 5 ((I 512) 5))), (521, r1), (522, r2)]) (lE' := []) rfl rfl (q_mgw rfl rfl) rfl ?_
  refine q_blk 5 [] (c' := q_kc (t, r, m, z, N, ext, rx, L) I E 41 [some (.ref 520), some (.ref 512)] [.ref 523, .ref 515, .ref 520] [(520, (q_up (q_up (q_up (q_up (q_up (q_up (I 520) 0 ((I 512) 0)) 1 ((I 512) 1)) 2 ((I 512) 2)) 3 ((I 512) 3)) 4 ((I 512) 4)) 5 ((I 512) 5))), (521, r1), (522, r2)] []) ok_X14_become rfl q_cn ?_
  obtain ⟨r3, hr3, hf⟩ := q_bd hf
  refine q_kV (M2 := m_X14_copy) (As := [.ref 515, .ref 523]) (b := 520) (v2 := none) ok_X14_become ok_X14_copy cv_X14_copy (ct_X14_copy_520_515_523 (d := 2) (Nat.le_refl _) hr3) rfl rfl (Or.inl rfl) rfl rfl rfl rfl (Nat.le_trans (Nat.le_of_ble_eq_true rfl) hd) (Nat.le_of_ble_eq_true rfl) (Nat.le_of_ble_eq_true rfl) (Nat.le_of_ble_eq_true rfl) (fun x hx => absurd hx List.not_mem_nil) (q_nmL0 _) (q_nmS0 _) rfl (pos' := 42) (st' := []) (lI' := [(520, (q_up (q_up (q_up (q_up (q_up (q_up (I 520) 0 ((I 512) 0)) 1 ((I 512) 1)) 2 ((I 512) 2)) 3 ((I 512) 3)) 4 ((I 512) 4)) 5 ((I 512) 5))), (521, r1), (522, r2), (523, r3)]) (lE' := []) rfl rfl (q_mgw rfl rfl) rfl ?_
  refine q_blk 5 [] (c' := q_kc (t, r, m, z, N, ext, rx, L) I E 47 [some (.ref 520), some (.ref 512)] [.ref 524, .ref 516, .ref 520] [(520, (q_up (q_up (q_up (q_up (q_up (q_up (I 520) 0 ((I 512) 0)) 1 ((I 512) 1)) 2 ((I 512) 2)) 3 ((I 512) 3)) 4 ((I 512) 4)) 5 ((I 512) 5))), (521, r1), (522, r2), (523, r3)] []) ok_X14_become rfl q_cn ?_
  obtain ⟨r4, hr4, hf⟩ := q_bd hf
  refine q_kV (M2 := m_X14_copy) (As := [.ref 516, .ref 524]) (b := 520) (v2 := none) ok_X14_become ok_X14_copy cv_X14_copy (ct_X14_copy_520_516_524 (d := 2) (Nat.le_refl _) hr4) rfl rfl (Or.inl rfl) rfl rfl rfl rfl (Nat.le_trans (Nat.le_of_ble_eq_true rfl) hd) (Nat.le_of_ble_eq_true rfl) (Nat.le_of_ble_eq_true rfl) (Nat.le_of_ble_eq_true rfl) (fun x hx => absurd hx List.not_mem_nil) (q_nmL0 _) (q_nmS0 _) rfl (pos' := 48) (st' := []) (lI' := [(520, (q_up (q_up (q_up (q_up (q_up (q_up (I 520) 0 ((I 512) 0)) 1 ((I 512) 1)) 2 ((I 512) 2)) 3 ((I 512) 3)) 4 ((I 512) 4)) 5 ((I 512) 5))), (521, r1), (522, r2), (523, r3), (524, r4)]) (lE' := []) rfl rfl (q_mgw rfl rfl) rfl ?_
  refine q_blk 5 [] (c' := q_kc (t, r, m, z, N, ext, rx, L) I E 53 [some (.ref 520), some (.ref 512)] [.ref 525, .ref 517, .ref 520] [(520, (q_up (q_up (q_up (q_up (q_up (q_up (I 520) 0 ((I 512) 0)) 1 ((I 512) 1)) 2 ((I 512) 2)) 3 ((I 512) 3)) 4 ((I 512) 4)) 5 ((I 512) 5))), (521, r1), (522, r2), (523, r3), (524, r4)] []) ok_X14_become rfl q_cn ?_
  obtain ⟨r5, hr5, hf⟩ := q_bd hf
  refine q_kV (M2 := m_X14_copy) (As := [.ref 517, .ref 525]) (b := 520) (v2 := none) ok_X14_become ok_X14_copy cv_X14_copy (ct_X14_copy_520_517_525 (d := 2) (Nat.le_refl _) hr5) rfl rfl (Or.inl rfl) rfl rfl rfl rfl (Nat.le_trans (Nat.le_of_ble_eq_true rfl) hd) (Nat.le_of_ble_eq_true rfl) (Nat.le_of_ble_eq_true rfl) (Nat.le_of_ble_eq_true rfl) (fun x hx => absurd hx List.not_mem_nil) (q_nmL0 _) (q_nmS0 _) rfl (pos' := 54) (st' := []) (lI' := [(520, (q_up (q_up (q_up (q_up (q_up (q_up (I 520) 0 ((I 512) 0)) 1 ((I 512) 1)) 2 ((I 512) 2)) 3 ((I 512) 3)) 4 ((I 512) 4)) 5 ((I 512) 5))), (521, r1), (522, r2), (523, r3), (524, r4), (525, r5)]) (lE' := []) rfl rfl (q_mgw rfl rfl) rfl ?_
  refine q_blk 5 [] (c' := q_kc (t, r, m, z, N, ext, rx, L) I E 59 [some (.ref 520), some (.ref 512)] [.ref 526, .ref 518, .ref 520] [(520, (q_up (q_up (q_up (q_up (q_up (q_up (I 520) 0 ((I 512) 0)) 1 ((I 512) 1)) 2 ((I 512) 2)) 3 ((I 512) 3)) 4 ((I 512) 4)) 5 ((I 512) 5))), (521, r1), (522, r2), (523, r3), (524, r4), (525, r5)] []) ok_X14_become rfl q_cn ?_
  obtain ⟨r6, hr6, hf⟩ := q_bd hf
  refine q_kV (M2 := m_X14_copy) (As := [.ref 518, .ref 526]) (b := 520) (v2 := none) ok_X14_become ok_X14_copy cv_X14_copy (ct_X14_copy_520_518_526 (d := 2) (Nat.le_refl _) hr6) rfl rfl (Or.inl rfl) rfl rfl rfl rfl (Nat.le_trans (Nat.le_of_ble_eq_true rfl) hd) (Nat.le_of_ble_eq_true rfl) (Nat.le_of_ble_eq_true rfl) (Nat.le_of_ble_eq_true rfl) (fun x hx => absurd hx List.not_mem_nil) (q_nmL0 _) (q_nmS0 _) rfl (pos' := 60) (st' := []) (lI' := [(520, (q_up (q_up (q_up (q_up (q_up (q_up (I 520) 0 ((I 512) 0)) 1 ((I 512) 1)) 2 ((I 512) 2)) 3 ((I 512) 3)) 4 ((I 512) 4)) 5 ((I 512) 5))), (521, r1), (522, r2), (523, r3), (524, r4), (525, r5), (526, r6)]) (lE' := []) rfl rfl (q_mgw rfl rfl) rfl ?_
  refine q_blk 5 [] (c' := q_kc (t, r, m, z, N, ext, rx, L) I E 65 [some (.ref 520), some (.ref 512)] [.ref 527, .ref 519, .ref 520] [(520, (q_up (q_up (q_up (q_up (q_up (q_up (I 520) 0 ((I 512) 0)) 1 ((I 512) 1)) 2 ((I 512) 2)) 3 ((I 512) 3)) 4 ((I 512) 4)) 5 ((I 512) 5))), (521, r1), (522, r2), (523, r3), (524, r4), (525, r5), (526, r6)] []) ok_X14_become rfl q_cn ?_
  obtain ⟨r7, hr7, hf⟩ := q_bd hf
  refine q_kV (M2 := m_X14_copy) (As := [.ref 519, .ref 527]) (b := 520) (v2 := none) ok_X14_become ok_X14_copy cv_X14_copy (ct_X14_copy_520_519_527 (d := 2) (Nat.le_refl _) hr7) rfl rfl (Or.inl rfl) rfl rfl rfl rfl (Nat.le_trans (Nat.le_of_ble_eq_true rfl) hd) (Nat.le_of_ble_eq_true rfl) (Nat.le_of_ble_eq_true rfl) (Nat.le_of_ble_eq_true rfl) (fun x hx => absurd hx List.not_mem_nil) (q_nmL0 _) (q_nmS0 _) rfl (pos' := 66) (st' := []) (lI' := [(520, (q_up (q_up (q_up (q_up (q_up (q_up (I 520) 0 ((I 512) 0)) 1 ((I 512) 1)) 2 ((I 512) 2)) 3 ((I 512) 3)) 4 ((I 512) 4)) 5 ((I 512) 5))), (521, r1), (522, r2), (523, r3), (524, r4), (525, r5), (526, r6), (527, r7)]) (lE' := []) rfl rfl (q_mgw rfl rfl) rfl ?_
  refine q_blk 1 [] (c' := q_kc (t, r, m, z, N, ext, rx, L) I E 67 [some (.ref 520), some (.ref 512)] [.ref 520] [(520, (q_up (q_up (q_up (q_up (q_up (q_up (I 520) 0 ((I 512) 0)) 1 ((I 512) 1)) 2 ((I 512) 2)) 3 ((I 512) 3)) 4 ((I 512) 4)) 5 ((I 512) 5))), (521, r1), (522, r2), (523, r3), (524, r4), (525, r5), (526, r6), (527, r7)] []) ok_X14_become rfl q_cn ?_
  cases hf
  exact q_kra ok_X14_become rfl rfl (Nat.le_of_ble_eq_true rfl) (Nat.le_of_ble_eq_true rfl) ⟨rfl, q_hpe (q_pdw [520, 521, 522, 523, 524, 525, 526, 527] rfl rfl) (q_pdw [] rfl rfl)⟩
set_option maxHeartbeats 4000000 in
theorem lp_X14_used_L4_520 {g : q_G} {d mc ms : Nat} {h0 : q_H} {Q : (Option Value ⊕ String) → q_H → Prop} {k n : Nat} {t : Nat} {r : Nat} {m : Nat} {z : Nat} {N : Nat} {ext : Nat → q_Sh} {rx : Nat → Nat → Option Nat} {L : Nat → Nat → Int64} (hd : 1 ≤ d) (hk : k ≤ mc) (hn : n ≤ ms)  {v1 : Int32} : ∀ (fu : Nat) {I : Nat → Nat → Int32} {E : Nat → Nat → Option Nat} {v2 : Int32} {v3 : Int32} {r0 : Int32} (hf : f_X14_used_L4 (I 522) (I 524) v1 fu v2 v3 = some r0) (hK0 : q_J g m_X14_used d mc ms h0 [] Q k n (q_kc (t, r, m, z, N, ext, rx, L) I E 24 [none, none, some (.int r0), none] [] [] [])), q_J g m_X14_used d mc ms h0 [] Q k n (4, [some (.ref 520), some (.int v1), some (.int v2), some (.int v3)], [], q_hp (t, r, m, z, N, ext, rx, L) I E) := by
  intro fu
  induction fu with
  | zero =>
    intro I E v2 v3 r0 hf hK0
    rw [f_X14_used_L4] at hf
    cases hf
  | succ fu ih =>
    intro I E v2 v3 r0 hf hK0
    rw [f_X14_used_L4] at hf
    change q_J g m_X14_used d mc ms h0 [] Q k n (q_kc (t, r, m, z, N, ext, rx, L) I E 4 [some (.ref 520), some (.int v1), some (.int v2), some (.int v3)] [] [] [])
    refine q_blf 2 [] (a := q_kc (t, r, m, z, N, ext, rx, L) I E 24 [some (.ref 520), some (.int v1), some (.int v2), some (.int v3)] [] [] []) (b := q_kc (t, r, m, z, N, ext, rx, L) I E 7 [some (.ref 520), some (.int v1), some (.int v2), some (.int v3)] [] [] []) (P := (136 : Int32) ≤ v3) ok_X14_used rfl q_cn (fun h1 => ?_) (fun h1 => ?_)
    · have hf := q_ip h1 hf
      refine q_less (ls' := [none, none, some (.int v2), none]) (q_sb1 (q_sb1 (q_sb2 (q_sb1 q_sb0)))) ?_
      cases hf
      exact q_Jpad (q_pdw [] rfl rfl) (q_pdw [] rfl rfl) hK0
    · have hf := q_in h1 hf
      obtain ⟨j2, hj2, hf⟩ := q_bd hf
      refine q_blf 6 [j2] (a := q_kc (t, r, m, z, N, ext, rx, L) I E 19 [some (.ref 520), some (.int v1), some (.int v2), some (.int v3)] [.int v2] [] []) (b := q_kc (t, r, m, z, N, ext, rx, L) I E 14 [some (.ref 520), some (.int v1), some (.int v2), some (.int v3)] [.int v2] [] []) (P := ¬ ((I 522) j2) = v1) ok_X14_used rfl (q_cc hj2 q_cn) (fun h3 => ?_) (fun h3 => ?_)
      · have hf := q_ip h3 hf
        refine q_blk 5 [] (c' := q_kc (t, r, m, z, N, ext, rx, L) I E 4 [some (.ref 520), some (.int v1), some (.int (v2 + (0 : Int32))), some (.int (v3 + 1))] [] [] []) ok_X14_used rfl q_cn ?_
        exact ih (I := q_ws I []) (E := q_ws E []) hf (q_Jmrg (q_mgw rfl rfl) (q_mgw rfl rfl) hK0)
      · have hf := q_in h3 hf
        obtain ⟨j4, hj4, hf⟩ := q_bd hf
        refine q_blk 9 [j4] (c' := q_kc (t, r, m, z, N, ext, rx, L) I E 4 [some (.ref 520), some (.int v1), some (.int (v2 + ((I 524) j4))), some (.int (v3 + 1))] [] [] []) ok_X14_used rfl (q_cc hj4 q_cn) ?_
        exact ih (I := q_ws I []) (E := q_ws E []) hf (q_Jmrg (q_mgw rfl rfl) (q_mgw rfl rfl) hK0)
set_option maxHeartbeats 4000000 in
theorem ct_X14_used_520 {g : q_G} {t : Nat} {r : Nat} {m : Nat} {z : Nat} {N : Nat} {ext : Nat → q_Sh} {rx : Nat → Nat → Option Nat} {L : Nat → Nat → Int64} {d : Nat} (hd : 1 ≤ d)  {I : Nat → Nat → Int32} {E : Nat → Nat → Option Nat} {x1 : Int32} {r0 : Int32} (hf : f_X14_used (I 522) (I 524) x1 = some r0) : q_Ct g m_X14_used d 0 0 [] [.ref 520, .int x1] (q_hp (t, r, m, z, N, ext, rx, L) I E) (fun o h' => o = .inl (some (.int r0)) ∧ h' = q_hp (t, r, m, z, N, ext, rx, L) (q_ws I []) (q_ws E [])) := by
  rw [f_X14_used] at hf
  refine q_Ct_of ok_X14_used (Nat.le_of_ble_eq_true rfl) ?_ _ rfl rfl
  change q_J g m_X14_used d 0 0 _ [] _ 0 0 (q_kc (t, r, m, z, N, ext, rx, L) I E 0 [some (.ref 520), some (.int x1), none, none] [] [] [])
  refine q_blk 4 [] (c' := q_kc (t, r, m, z, N, ext, rx, L) I E 4 [some (.ref 520), some (.int x1), some (.int (0 : Int32)), some (.int (0 : Int32))] [] [] []) ok_X14_used rfl q_cn ?_
  obtain ⟨r5, hr5, hf⟩ := q_bd hf
  refine lp_X14_used_L4_520 (I := q_ws I []) (E := q_ws E []) hd (Nat.le_of_ble_eq_true rfl) (Nat.le_of_ble_eq_true rfl) 4096 hr5 ?_
  refine q_Jmrg (lI' := []) (lE' := []) (q_mgw rfl rfl) (q_mgw rfl rfl) ?_
  refine q_blk 1 [] (c' := q_kc (t, r, m, z, N, ext, rx, L) I E 25 [none, none, some (.int r5), none] [.int r5] [] []) ok_X14_used rfl q_cn ?_
  cases hf
  exact q_kri ok_X14_used rfl rfl rfl (Nat.le_of_ble_eq_true rfl) (Nat.le_of_ble_eq_true rfl) ⟨rfl, q_hpe (q_pdw [] rfl rfl) (q_pdw [] rfl rfl)⟩
set_option maxHeartbeats 4000000 in
theorem lp_X14_bales_L4_520 {g : q_G} {d mc ms : Nat} {h0 : q_H} {Q : (Option Value ⊕ String) → q_H → Prop} {k n : Nat} {t : Nat} {r : Nat} {m : Nat} {z : Nat} {N : Nat} {ext : Nat → q_Sh} {rx : Nat → Nat → Option Nat} {L : Nat → Nat → Int64} (hd : 1 ≤ d) (hk : k ≤ mc) (hn : n ≤ ms)  {v1 : Int32} : ∀ (fu : Nat) {I : Nat → Nat → Int32} {E : Nat → Nat → Option Nat} {v2 : Int32} {v3 : Int32} {r0 : Int32} (hf : f_X14_bales_L4 (I 522) v1 fu v2 v3 = some r0) (hK0 : q_J g m_X14_bales d mc ms h0 [] Q k n (q_kc (t, r, m, z, N, ext, rx, L) I E 21 [none, none, some (.int r0), none] [] [] [])), q_J g m_X14_bales d mc ms h0 [] Q k n (4, [some (.ref 520), some (.int v1), some (.int v2), some (.int v3)], [], q_hp (t, r, m, z, N, ext, rx, L) I E) := by
  intro fu
  induction fu with
  | zero =>
    intro I E v2 v3 r0 hf hK0
    rw [f_X14_bales_L4] at hf
    cases hf
  | succ fu ih =>
    intro I E v2 v3 r0 hf hK0
    rw [f_X14_bales_L4] at hf
    change q_J g m_X14_bales d mc ms h0 [] Q k n (q_kc (t, r, m, z, N, ext, rx, L) I E 4 [some (.ref 520), some (.int v1), some (.int v2), some (.int v3)] [] [] [])
    refine q_blf 2 [] (a := q_kc (t, r, m, z, N, ext, rx, L) I E 21 [some (.ref 520), some (.int v1), some (.int v2), some (.int v3)] [] [] []) (b := q_kc (t, r, m, z, N, ext, rx, L) I E 7 [some (.ref 520), some (.int v1), some (.int v2), some (.int v3)] [] [] []) (P := (136 : Int32) ≤ v3) ok_X14_bales rfl q_cn (fun h1 => ?_) (fun h1 => ?_)
    · have hf := q_ip h1 hf
      refine q_less (ls' := [none, none, some (.int v2), none]) (q_sb1 (q_sb1 (q_sb2 (q_sb1 q_sb0)))) ?_
      cases hf
      exact q_Jpad (q_pdw [] rfl rfl) (q_pdw [] rfl rfl) hK0
    · have hf := q_in h1 hf
      obtain ⟨j2, hj2, hf⟩ := q_bd hf
      refine q_blf 6 [j2] (a := q_kc (t, r, m, z, N, ext, rx, L) I E 16 [some (.ref 520), some (.int v1), some (.int v2), some (.int v3)] [.int v2] [] []) (b := q_kc (t, r, m, z, N, ext, rx, L) I E 14 [some (.ref 520), some (.int v1), some (.int v2), some (.int v3)] [.int v2] [] []) (P := ¬ ((I 522) j2) = v1) ok_X14_bales rfl (q_cc hj2 q_cn) (fun h3 => ?_) (fun h3 => ?_)
      · have hf := q_ip h3 hf
        refine q_blk 5 [] (c' := q_kc (t, r, m, z, N, ext, rx, L) I E 4 [some (.ref 520), some (.int v1), some (.int (v2 + (0 : Int32))), some (.int (v3 + 1))] [] [] []) ok_X14_bales rfl q_cn ?_
        exact ih (I := q_ws I []) (E := q_ws E []) hf (q_Jmrg (q_mgw rfl rfl) (q_mgw rfl rfl) hK0)
      · have hf := q_in h3 hf
        refine q_blk 6 [] (c' := q_kc (t, r, m, z, N, ext, rx, L) I E 4 [some (.ref 520), some (.int v1), some (.int (v2 + (1 : Int32))), some (.int (v3 + 1))] [] [] []) ok_X14_bales rfl q_cn ?_
        exact ih (I := q_ws I []) (E := q_ws E []) hf (q_Jmrg (q_mgw rfl rfl) (q_mgw rfl rfl) hK0)
set_option maxHeartbeats 4000000 in
theorem ct_X14_bales_520 {g : q_G} {t : Nat} {r : Nat} {m : Nat} {z : Nat} {N : Nat} {ext : Nat → q_Sh} {rx : Nat → Nat → Option Nat} {L : Nat → Nat → Int64} {d : Nat} (hd : 1 ≤ d)  {I : Nat → Nat → Int32} {E : Nat → Nat → Option Nat} {x1 : Int32} {r0 : Int32} (hf : f_X14_bales (I 522) x1 = some r0) : q_Ct g m_X14_bales d 0 0 [] [.ref 520, .int x1] (q_hp (t, r, m, z, N, ext, rx, L) I E) (fun o h' => o = .inl (some (.int r0)) ∧ h' = q_hp (t, r, m, z, N, ext, rx, L) (q_ws I []) (q_ws E [])) := by
  rw [f_X14_bales] at hf
  refine q_Ct_of ok_X14_bales (Nat.le_of_ble_eq_true rfl) ?_ _ rfl rfl
  change q_J g m_X14_bales d 0 0 _ [] _ 0 0 (q_kc (t, r, m, z, N, ext, rx, L) I E 0 [some (.ref 520), some (.int x1), none, none] [] [] [])
  refine q_blk 4 [] (c' := q_kc (t, r, m, z, N, ext, rx, L) I E 4 [some (.ref 520), some (.int x1), some (.int (0 : Int32)), some (.int (0 : Int32))] [] [] []) ok_X14_bales rfl q_cn ?_
  obtain ⟨r4, hr4, hf⟩ := q_bd hf
  refine lp_X14_bales_L4_520 (I := q_ws I []) (E := q_ws E []) hd (Nat.le_of_ble_eq_true rfl) (Nat.le_of_ble_eq_true rfl) 4096 hr4 ?_
  refine q_Jmrg (lI' := []) (lE' := []) (q_mgw rfl rfl) (q_mgw rfl rfl) ?_
  refine q_blk 1 [] (c' := q_kc (t, r, m, z, N, ext, rx, L) I E 22 [none, none, some (.int r4), none] [.int r4] [] []) ok_X14_bales rfl q_cn ?_
  cases hf
  exact q_kri ok_X14_bales rfl rfl rfl (Nat.le_of_ble_eq_true rfl) (Nat.le_of_ble_eq_true rfl) ⟨rfl, q_hpe (q_pdw [] rfl rfl) (q_pdw [] rfl rfl)⟩
set_option maxHeartbeats 4000000 in
theorem ct_X14_bales__520 {g : q_G} {t : Nat} {r : Nat} {m : Nat} {z : Nat} {N : Nat} {ext : Nat → q_Sh} {rx : Nat → Nat → Option Nat} {L : Nat → Nat → Int64} {d : Nat} (hd : 2 ≤ d)  {I : Nat → Nat → Int32} {E : Nat → Nat → Option Nat} {r0 : Int32} (hf : f_X14_bales_ (I 522) = some r0) : q_Ct g m_X14_bales_ d 0 0 [] [.ref 520] (q_hp (t, r, m, z, N, ext, rx, L) I E) (fun o h' => o = .inl (some (.int r0)) ∧ h' = q_hp (t, r, m, z, N, ext, rx, L) (q_ws I []) (q_ws E [])) := by
  rw [f_X14_bales_] at hf
  refine q_Ct_of ok_X14_bales_ (Nat.le_of_ble_eq_true rfl) ?_ _ rfl rfl
  change q_J g m_X14_bales_ d 0 0 _ [] _ 0 0 (q_kc (t, r, m, z, N, ext, rx, L) I E 0 [some (.ref 520)] [] [] [])
  refine q_blk 2 [] (c' := q_kc (t, r, m, z, N, ext, rx, L) I E 2 [some (.ref 520)] [.int (1 : Int32), .ref 520] [] []) ok_X14_bales_ rfl q_cn ?_
  obtain ⟨r1, hr1, hf⟩ := q_bd hf
  refine q_kV (M2 := m_X14_bales) (As := [.int (1 : Int32)]) (b := 520) (v2 := some (.int r1)) ok_X14_bales_ ok_X14_bales cv_X14_bales (ct_X14_bales_520 (d := 1) (Nat.le_refl _) hr1) rfl rfl (Or.inl rfl) rfl rfl rfl rfl (Nat.le_trans (Nat.le_of_ble_eq_true rfl) hd) (Nat.le_of_ble_eq_true rfl) (Nat.le_of_ble_eq_true rfl) (Nat.le_of_ble_eq_true rfl) (fun x hx => absurd hx List.not_mem_nil) (q_nmL0 _) (q_nmS0 _) rfl (pos' := 3) (st' := [.int r1]) (lI' := []) (lE' := []) rfl rfl rfl rfl ?_
  refine q_blk 2 [] (c' := q_kc (t, r, m, z, N, ext, rx, L) I E 5 [some (.ref 520)] [.int (2 : Int32), .ref 520, .int r1] [] []) ok_X14_bales_ rfl q_cn ?_
  obtain ⟨r2, hr2, hf⟩ := q_bd hf
  refine q_kV (M2 := m_X14_bales) (As := [.int (2 : Int32)]) (b := 520) (v2 := some (.int r2)) ok_X14_bales_ ok_X14_bales cv_X14_bales (ct_X14_bales_520 (d := 1) (Nat.le_refl _) hr2) rfl rfl (Or.inl rfl) rfl rfl rfl rfl (Nat.le_trans (Nat.le_of_ble_eq_true rfl) hd) (Nat.le_of_ble_eq_true rfl) (Nat.le_of_ble_eq_true rfl) (Nat.le_of_ble_eq_true rfl) (fun x hx => absurd hx List.not_mem_nil) (q_nmL0 _) (q_nmS0 _) rfl (pos' := 6) (st' := [.int r2, .int r1]) (lI' := []) (lE' := []) rfl rfl rfl rfl ?_
  refine q_blk 1 [] (c' := q_kc (t, r, m, z, N, ext, rx, L) I E 7 [some (.ref 520)] [.int (r1 + r2)] [] []) ok_X14_bales_ rfl q_cn ?_
  cases hf
  exact q_kri ok_X14_bales_ rfl rfl rfl (Nat.le_of_ble_eq_true rfl) (Nat.le_of_ble_eq_true rfl) ⟨rfl, q_hpe (q_pdw [] rfl rfl) (q_pdw [] rfl rfl)⟩
set_option maxHeartbeats 4000000 in
theorem ct_X14_pushed_520 {g : q_G} {t : Nat} {r : Nat} {z : Nat} {N : Nat} {ext : Nat → q_Sh} {rx : Nat → Nat → Option Nat} {L : Nat → Nat → Int64} {d : Nat} (hd : 3 ≤ d)  {I : Nat → Nat → Int32} {E : Nat → Nat → Option Nat} {x1 : Int32} {x2 : Int32} {r0 : Int32} (hf : f_X14_pushed (I 499) (I 507) (I 520) (I 521) (I 522) (I 524) (I 526) x1 x2 = some r0) : q_Ct g m_X14_pushed d 0 0 [] [.ref 520, .int x1, .int x2] (q_hp (t, r, 1, z, N, ext, rx, L) I E) (fun o h' => o = .inl (some (.int r0)) ∧ h' = q_hp (t, r, 1, z, N, ext, rx, L) (q_ws I []) (q_ws E [])) := by
  rw [f_X14_pushed] at hf
  refine q_Ct_of ok_X14_pushed (Nat.le_of_ble_eq_true rfl) ?_ _ rfl rfl
  change q_J g m_X14_pushed d 0 0 _ [] _ 0 0 (q_kc (t, r, 1, z, N, ext, rx, L) I E 0 [some (.ref 520), some (.int x1), some (.int x2), none] [] [] [])
  obtain ⟨j1, hj1, hf⟩ := q_bd hf
  refine q_blk 8 [j1] (c' := q_kc (t, r, 1, z, N, ext, rx, L) I E 8 [some (.ref 520), some (.int x1), some (.int x2), some (.int ((I 507) j1))] [.int x1] [] []) ok_X14_pushed rfl (q_cc hj1 q_cn) ?_
  refine q_ksw [31, 99, 99, 99, 99, 99, 99, 99, 99, 99, 99, 9, 12, 16, 25, 28, 47, 63, 73] ok_X14_pushed rfl (dp := 99) rfl (fun ix t9 ht9 hx9 => ?_) (fun hx9 => ?_) (by decide) (by decide)
  · match ix, ht9 with
    | 0, ht9 =>
      have hx9 : x1 = 5 := hx9
      cases ht9
      have hf := q_ip hx9 hf
      obtain ⟨j2, hj2, hf⟩ := q_bd hf
      refine q_blf 5 [j2] (a := q_kc (t, r, 1, z, N, ext, rx, L) I E 39 [some (.ref 520), some (.int x1), some (.int x2), some (.int ((I 507) j1))] [] [] []) (b := q_kc (t, r, 1, z, N, ext, rx, L) I E 37 [some (.ref 520), some (.int x1), some (.int x2), some (.int ((I 507) j1))] [] [] []) (P := ¬ ((I 521) j2) = (-1 : Int32)) ok_X14_pushed rfl (q_cc hj2 q_cn) (fun h3 => ?_) (fun h3 => ?_)
      · have hf := q_ip h3 hf
        obtain ⟨j4, hj4, hf⟩ := q_bd hf
        obtain ⟨j5, hj5, hf⟩ := q_bd hf
        refine q_blk 7 [j4, j5] (c' := q_kc (t, r, 1, z, N, ext, rx, L) I E 46 [some (.ref 520), some (.int x1), some (.int x2), some (.int ((I 507) j1))] [.int ((I 524) j5)] [] []) ok_X14_pushed rfl (q_cc hj5 (q_cc hj4 q_cn)) ?_
        cases hf
        exact q_kri ok_X14_pushed rfl rfl rfl (Nat.le_of_ble_eq_true rfl) (Nat.le_of_ble_eq_true rfl) ⟨rfl, q_hpe (q_pdw [] rfl rfl) (q_pdw [] rfl rfl)⟩
      · have hf := q_in h3 hf
        refine q_blk 2 [] (c' := q_kc (t, r, 1, z, N, ext, rx, L) I E 46 [some (.ref 520), some (.int x1), some (.int x2), some (.int ((I 507) j1))] [.int (0 : Int32)] [] []) ok_X14_pushed rfl q_cn ?_
        cases hf
        exact q_kri ok_X14_pushed rfl rfl rfl (Nat.le_of_ble_eq_true rfl) (Nat.le_of_ble_eq_true rfl) ⟨rfl, q_hpe (q_pdw [] rfl rfl) (q_pdw [] rfl rfl)⟩
    | 1, ht9 =>
      have hx9 : x1 = 6 := hx9
      cases ht9
      have hf := q_in (fun hz9 => absurd (hx9.symm.trans hz9) (by decide)) hf
      have hf := q_ip hx9 hf
      refine q_blk 1 [] (c' := q_kc (t, r, 1, z, N, ext, rx, L) I E 100 [some (.ref 520), some (.int x1), some (.int x2), some (.int ((I 507) j1))] [.int ((I 507) j1)] [] []) ok_X14_pushed rfl q_cn ?_
      cases hf
      exact q_kri ok_X14_pushed rfl rfl rfl (Nat.le_of_ble_eq_true rfl) (Nat.le_of_ble_eq_true rfl) ⟨rfl, q_hpe (q_pdw [] rfl rfl) (q_pdw [] rfl rfl)⟩
    | 2, ht9 =>
      have hx9 : x1 = 7 := hx9
      cases ht9
      have hf := q_in (fun hz9 => absurd (hx9.symm.trans hz9) (by decide)) hf
      have hf := q_in (fun hz9 => absurd (hx9.symm.trans hz9) (by decide)) hf
      have hf := q_ip hx9 hf
      refine q_blk 1 [] (c' := q_kc (t, r, 1, z, N, ext, rx, L) I E 100 [some (.ref 520), some (.int x1), some (.int x2), some (.int ((I 507) j1))] [.int ((I 507) j1)] [] []) ok_X14_pushed rfl q_cn ?_
      cases hf
      exact q_kri ok_X14_pushed rfl rfl rfl (Nat.le_of_ble_eq_true rfl) (Nat.le_of_ble_eq_true rfl) ⟨rfl, q_hpe (q_pdw [] rfl rfl) (q_pdw [] rfl rfl)⟩
    | 3, ht9 =>
      have hx9 : x1 = 8 := hx9
      cases ht9
      have hf := q_in (fun hz9 => absurd (hx9.symm.trans hz9) (by decide)) hf
      have hf := q_in (fun hz9 => absurd (hx9.symm.trans hz9) (by decide)) hf
      have hf := q_in (fun hz9 => absurd (hx9.symm.trans hz9) (by decide)) hf
      have hf := q_ip hx9 hf
      refine q_blk 1 [] (c' := q_kc (t, r, 1, z, N, ext, rx, L) I E 100 [some (.ref 520), some (.int x1), some (.int x2), some (.int ((I 507) j1))] [.int ((I 507) j1)] [] []) ok_X14_pushed rfl q_cn ?_
      cases hf
      exact q_kri ok_X14_pushed rfl rfl rfl (Nat.le_of_ble_eq_true rfl) (Nat.le_of_ble_eq_true rfl) ⟨rfl, q_hpe (q_pdw [] rfl rfl) (q_pdw [] rfl rfl)⟩
    | 4, ht9 =>
      have hx9 : x1 = 9 := hx9
      cases ht9
      have hf := q_in (fun hz9 => absurd (hx9.symm.trans hz9) (by decide)) hf
      have hf := q_in (fun hz9 => absurd (hx9.symm.trans hz9) (by decide)) hf
      have hf := q_in (fun hz9 => absurd (hx9.symm.trans hz9) (by decide)) hf
      have hf := q_in (fun hz9 => absurd (hx9.symm.trans hz9) (by decide)) hf
      have hf := q_ip hx9 hf
      refine q_blk 1 [] (c' := q_kc (t, r, 1, z, N, ext, rx, L) I E 100 [some (.ref 520), some (.int x1), some (.int x2), some (.int ((I 507) j1))] [.int ((I 507) j1)] [] []) ok_X14_pushed rfl q_cn ?_
      cases hf
      exact q_kri ok_X14_pushed rfl rfl rfl (Nat.le_of_ble_eq_true rfl) (Nat.le_of_ble_eq_true rfl) ⟨rfl, q_hpe (q_pdw [] rfl rfl) (q_pdw [] rfl rfl)⟩
    | 5, ht9 =>
      have hx9 : x1 = 10 := hx9
      cases ht9
      have hf := q_in (fun hz9 => absurd (hx9.symm.trans hz9) (by decide)) hf
      have hf := q_in (fun hz9 => absurd (hx9.symm.trans hz9) (by decide)) hf
      have hf := q_in (fun hz9 => absurd (hx9.symm.trans hz9) (by decide)) hf
      have hf := q_in (fun hz9 => absurd (hx9.symm.trans hz9) (by decide)) hf
      have hf := q_in (fun hz9 => absurd (hx9.symm.trans hz9) (by decide)) hf
      have hf := q_ip hx9 hf
      refine q_blk 1 [] (c' := q_kc (t, r, 1, z, N, ext, rx, L) I E 100 [some (.ref 520), some (.int x1), some (.int x2), some (.int ((I 507) j1))] [.int ((I 507) j1)] [] []) ok_X14_pushed rfl q_cn ?_
      cases hf
      exact q_kri ok_X14_pushed rfl rfl rfl (Nat.le_of_ble_eq_true rfl) (Nat.le_of_ble_eq_true rfl) ⟨rfl, q_hpe (q_pdw [] rfl rfl) (q_pdw [] rfl rfl)⟩
    | 6, ht9 =>
      have hx9 : x1 = 11 := hx9
      cases ht9
      have hf := q_in (fun hz9 => absurd (hx9.symm.trans hz9) (by decide)) hf
      have hf := q_in (fun hz9 => absurd (hx9.symm.trans hz9) (by decide)) hf
      have hf := q_in (fun hz9 => absurd (hx9.symm.trans hz9) (by decide)) hf
      have hf := q_in (fun hz9 => absurd (hx9.symm.trans hz9) (by decide)) hf
      have hf := q_in (fun hz9 => absurd (hx9.symm.trans hz9) (by decide)) hf
      have hf := q_in (fun hz9 => absurd (hx9.symm.trans hz9) (by decide)) hf
      have hf := q_ip hx9 hf
      refine q_blk 1 [] (c' := q_kc (t, r, 1, z, N, ext, rx, L) I E 100 [some (.ref 520), some (.int x1), some (.int x2), some (.int ((I 507) j1))] [.int ((I 507) j1)] [] []) ok_X14_pushed rfl q_cn ?_
      cases hf
      exact q_kri ok_X14_pushed rfl rfl rfl (Nat.le_of_ble_eq_true rfl) (Nat.le_of_ble_eq_true rfl) ⟨rfl, q_hpe (q_pdw [] rfl rfl) (q_pdw [] rfl rfl)⟩
    | 7, ht9 =>
      have hx9 : x1 = 12 := hx9
      cases ht9
      have hf := q_in (fun hz9 => absurd (hx9.symm.trans hz9) (by decide)) hf
      have hf := q_in (fun hz9 => absurd (hx9.symm.trans hz9) (by decide)) hf
      have hf := q_in (fun hz9 => absurd (hx9.symm.trans hz9) (by decide)) hf
      have hf := q_in (fun hz9 => absurd (hx9.symm.trans hz9) (by decide)) hf
      have hf := q_in (fun hz9 => absurd (hx9.symm.trans hz9) (by decide)) hf
      have hf := q_in (fun hz9 => absurd (hx9.symm.trans hz9) (by decide)) hf
      have hf := q_in (fun hz9 => absurd (hx9.symm.trans hz9) (by decide)) hf
      have hf := q_ip hx9 hf
      refine q_blk 1 [] (c' := q_kc (t, r, 1, z, N, ext, rx, L) I E 100 [some (.ref 520), some (.int x1), some (.int x2), some (.int ((I 507) j1))] [.int ((I 507) j1)] [] []) ok_X14_pushed rfl q_cn ?_
      cases hf
      exact q_kri ok_X14_pushed rfl rfl rfl (Nat.le_of_ble_eq_true rfl) (Nat.le_of_ble_eq_true rfl) ⟨rfl, q_hpe (q_pdw [] rfl rfl) (q_pdw [] rfl rfl)⟩
    | 8, ht9 =>
      have hx9 : x1 = 13 := hx9
      cases ht9
      have hf := q_in (fun hz9 => absurd (hx9.symm.trans hz9) (by decide)) hf
      have hf := q_in (fun hz9 => absurd (hx9.symm.trans hz9) (by decide)) hf
      have hf := q_in (fun hz9 => absurd (hx9.symm.trans hz9) (by decide)) hf
      have hf := q_in (fun hz9 => absurd (hx9.symm.trans hz9) (by decide)) hf
      have hf := q_in (fun hz9 => absurd (hx9.symm.trans hz9) (by decide)) hf
      have hf := q_in (fun hz9 => absurd (hx9.symm.trans hz9) (by decide)) hf
      have hf := q_in (fun hz9 => absurd (hx9.symm.trans hz9) (by decide)) hf
      have hf := q_in (fun hz9 => absurd (hx9.symm.trans hz9) (by decide)) hf
      have hf := q_ip hx9 hf
      refine q_blk 1 [] (c' := q_kc (t, r, 1, z, N, ext, rx, L) I E 100 [some (.ref 520), some (.int x1), some (.int x2), some (.int ((I 507) j1))] [.int ((I 507) j1)] [] []) ok_X14_pushed rfl q_cn ?_
      cases hf
      exact q_kri ok_X14_pushed rfl rfl rfl (Nat.le_of_ble_eq_true rfl) (Nat.le_of_ble_eq_true rfl) ⟨rfl, q_hpe (q_pdw [] rfl rfl) (q_pdw [] rfl rfl)⟩
    | 9, ht9 =>
      have hx9 : x1 = 14 := hx9
      cases ht9
      have hf := q_in (fun hz9 => absurd (hx9.symm.trans hz9) (by decide)) hf
      have hf := q_in (fun hz9 => absurd (hx9.symm.trans hz9) (by decide)) hf
      have hf := q_in (fun hz9 => absurd (hx9.symm.trans hz9) (by decide)) hf
      have hf := q_in (fun hz9 => absurd (hx9.symm.trans hz9) (by decide)) hf
      have hf := q_in (fun hz9 => absurd (hx9.symm.trans hz9) (by decide)) hf
      have hf := q_in (fun hz9 => absurd (hx9.symm.trans hz9) (by decide)) hf
      have hf := q_in (fun hz9 => absurd (hx9.symm.trans hz9) (by decide)) hf
      have hf := q_in (fun hz9 => absurd (hx9.symm.trans hz9) (by decide)) hf
      have hf := q_in (fun hz9 => absurd (hx9.symm.trans hz9) (by decide)) hf
      have hf := q_ip hx9 hf
      refine q_blk 1 [] (c' := q_kc (t, r, 1, z, N, ext, rx, L) I E 100 [some (.ref 520), some (.int x1), some (.int x2), some (.int ((I 507) j1))] [.int ((I 507) j1)] [] []) ok_X14_pushed rfl q_cn ?_
      cases hf
      exact q_kri ok_X14_pushed rfl rfl rfl (Nat.le_of_ble_eq_true rfl) (Nat.le_of_ble_eq_true rfl) ⟨rfl, q_hpe (q_pdw [] rfl rfl) (q_pdw [] rfl rfl)⟩
    | 10, ht9 =>
      have hx9 : x1 = 15 := hx9
      cases ht9
      have hf := q_in (fun hz9 => absurd (hx9.symm.trans hz9) (by decide)) hf
      have hf := q_in (fun hz9 => absurd (hx9.symm.trans hz9) (by decide)) hf
      have hf := q_in (fun hz9 => absurd (hx9.symm.trans hz9) (by decide)) hf
      have hf := q_in (fun hz9 => absurd (hx9.symm.trans hz9) (by decide)) hf
      have hf := q_in (fun hz9 => absurd (hx9.symm.trans hz9) (by decide)) hf
      have hf := q_in (fun hz9 => absurd (hx9.symm.trans hz9) (by decide)) hf
      have hf := q_in (fun hz9 => absurd (hx9.symm.trans hz9) (by decide)) hf
      have hf := q_in (fun hz9 => absurd (hx9.symm.trans hz9) (by decide)) hf
      have hf := q_in (fun hz9 => absurd (hx9.symm.trans hz9) (by decide)) hf
      have hf := q_in (fun hz9 => absurd (hx9.symm.trans hz9) (by decide)) hf
      have hf := q_ip hx9 hf
      refine q_blk 1 [] (c' := q_kc (t, r, 1, z, N, ext, rx, L) I E 100 [some (.ref 520), some (.int x1), some (.int x2), some (.int ((I 507) j1))] [.int ((I 507) j1)] [] []) ok_X14_pushed rfl q_cn ?_
      cases hf
      exact q_kri ok_X14_pushed rfl rfl rfl (Nat.le_of_ble_eq_true rfl) (Nat.le_of_ble_eq_true rfl) ⟨rfl, q_hpe (q_pdw [] rfl rfl) (q_pdw [] rfl rfl)⟩
    | 11, ht9 =>
      have hx9 : x1 = 16 := hx9
      cases ht9
      have hf := q_in (fun hz9 => absurd (hx9.symm.trans hz9) (by decide)) hf
      have hf := q_in (fun hz9 => absurd (hx9.symm.trans hz9) (by decide)) hf
      have hf := q_in (fun hz9 => absurd (hx9.symm.trans hz9) (by decide)) hf
      have hf := q_in (fun hz9 => absurd (hx9.symm.trans hz9) (by decide)) hf
      have hf := q_in (fun hz9 => absurd (hx9.symm.trans hz9) (by decide)) hf
      have hf := q_in (fun hz9 => absurd (hx9.symm.trans hz9) (by decide)) hf
      have hf := q_in (fun hz9 => absurd (hx9.symm.trans hz9) (by decide)) hf
      have hf := q_in (fun hz9 => absurd (hx9.symm.trans hz9) (by decide)) hf
      have hf := q_in (fun hz9 => absurd (hx9.symm.trans hz9) (by decide)) hf
      have hf := q_in (fun hz9 => absurd (hx9.symm.trans hz9) (by decide)) hf
      have hf := q_in (fun hz9 => absurd (hx9.symm.trans hz9) (by decide)) hf
      have hf := q_ip hx9 hf
      refine q_blk 2 [] (c' := q_kc (t, r, 1, z, N, ext, rx, L) I E 11 [some (.ref 520), some (.int x1), some (.int x2), some (.int ((I 507) j1))] [.int ((I 520) 0)] [] []) ok_X14_pushed rfl q_cn ?_
      cases hf
      exact q_kri ok_X14_pushed rfl rfl rfl (Nat.le_of_ble_eq_true rfl) (Nat.le_of_ble_eq_true rfl) ⟨rfl, q_hpe (q_pdw [] rfl rfl) (q_pdw [] rfl rfl)⟩
    | 12, ht9 =>
      have hx9 : x1 = 17 := hx9
      cases ht9
      have hf := q_in (fun hz9 => absurd (hx9.symm.trans hz9) (by decide)) hf
      have hf := q_in (fun hz9 => absurd (hx9.symm.trans hz9) (by decide)) hf
      have hf := q_in (fun hz9 => absurd (hx9.symm.trans hz9) (by decide)) hf
      have hf := q_in (fun hz9 => absurd (hx9.symm.trans hz9) (by decide)) hf
      have hf := q_in (fun hz9 => absurd (hx9.symm.trans hz9) (by decide)) hf
      have hf := q_in (fun hz9 => absurd (hx9.symm.trans hz9) (by decide)) hf
      have hf := q_in (fun hz9 => absurd (hx9.symm.trans hz9) (by decide)) hf
      have hf := q_in (fun hz9 => absurd (hx9.symm.trans hz9) (by decide)) hf
      have hf := q_in (fun hz9 => absurd (hx9.symm.trans hz9) (by decide)) hf
      have hf := q_in (fun hz9 => absurd (hx9.symm.trans hz9) (by decide)) hf
      have hf := q_in (fun hz9 => absurd (hx9.symm.trans hz9) (by decide)) hf
      have hf := q_in (fun hz9 => absurd (hx9.symm.trans hz9) (by decide)) hf
      have hf := q_ip hx9 hf
      refine q_blk 2 [] (c' := q_kc (t, r, 1, z, N, ext, rx, L) I E 14 [some (.ref 520), some (.int x1), some (.int x2), some (.int ((I 507) j1))] [.int (1 : Int32), .ref 520] [] []) ok_X14_pushed rfl q_cn ?_
      obtain ⟨r6, hr6, hf⟩ := q_bd hf
      refine q_kV (M2 := m_X14_used) (As := [.int (1 : Int32)]) (b := 520) (v2 := some (.int r6)) ok_X14_pushed ok_X14_used cv_X14_used (ct_X14_used_520 (d := 1) (Nat.le_refl _) hr6) rfl rfl (Or.inl rfl) rfl rfl rfl rfl (Nat.le_trans (Nat.le_of_ble_eq_true rfl) hd) (Nat.le_of_ble_eq_true rfl) (Nat.le_of_ble_eq_true rfl) (Nat.le_of_ble_eq_true rfl) (fun x hx => absurd hx List.not_mem_nil) (q_nmL0 _) (q_nmS0 _) rfl (pos' := 15) (st' := [.int r6]) (lI' := []) (lE' := []) rfl rfl rfl rfl ?_
      cases hf
      exact q_kri ok_X14_pushed rfl rfl rfl (Nat.le_of_ble_eq_true rfl) (Nat.le_of_ble_eq_true rfl) ⟨rfl, q_hpe (q_pdw [] rfl rfl) (q_pdw [] rfl rfl)⟩
    | 13, ht9 =>
      have hx9 : x1 = 18 := hx9
      cases ht9
      have hf := q_in (fun hz9 => absurd (hx9.symm.trans hz9) (by decide)) hf
      have hf := q_in (fun hz9 => absurd (hx9.symm.trans hz9) (by decide)) hf
      have hf := q_in (fun hz9 => absurd (hx9.symm.trans hz9) (by decide)) hf
      have hf := q_in (fun hz9 => absurd (hx9.symm.trans hz9) (by decide)) hf
      have hf := q_in (fun hz9 => absurd (hx9.symm.trans hz9) (by decide)) hf
      have hf := q_in (fun hz9 => absurd (hx9.symm.trans hz9) (by decide)) hf
      have hf := q_in (fun hz9 => absurd (hx9.symm.trans hz9) (by decide)) hf
      have hf := q_in (fun hz9 => absurd (hx9.symm.trans hz9) (by decide)) hf
      have hf := q_in (fun hz9 => absurd (hx9.symm.trans hz9) (by decide)) hf
      have hf := q_in (fun hz9 => absurd (hx9.symm.trans hz9) (by decide)) hf
      have hf := q_in (fun hz9 => absurd (hx9.symm.trans hz9) (by decide)) hf
      have hf := q_in (fun hz9 => absurd (hx9.symm.trans hz9) (by decide)) hf
      have hf := q_in (fun hz9 => absurd (hx9.symm.trans hz9) (by decide)) hf
      have hf := q_ip hx9 hf
      refine q_blk 6 [] (c' := q_kc (t, r, 1, z, N, ext, rx, L) I E 22 [some (.ref 520), some (.int x1), some (.int x2), some (.int ((I 507) j1))] [.int (1 : Int32), .ref 520, .int ((I 499) 1)] [] []) ok_X14_pushed rfl q_cn ?_
      obtain ⟨r7, hr7, hf⟩ := q_bd hf
      refine q_kV (M2 := m_X14_used) (As := [.int (1 : Int32)]) (b := 520) (v2 := some (.int r7)) ok_X14_pushed ok_X14_used cv_X14_used (ct_X14_used_520 (d := 1) (Nat.le_refl _) hr7) rfl rfl (Or.inl rfl) rfl rfl rfl rfl (Nat.le_trans (Nat.le_of_ble_eq_true rfl) hd) (Nat.le_of_ble_eq_true rfl) (Nat.le_of_ble_eq_true rfl) (Nat.le_of_ble_eq_true rfl) (fun x hx => absurd hx List.not_mem_nil) (q_nmL0 _) (q_nmS0 _) rfl (pos' := 23) (st' := [.int r7, .int ((I 499) 1)]) (lI' := []) (lE' := []) rfl rfl rfl rfl ?_
      refine q_blk 1 [] (c' := q_kc (t, r, 1, z, N, ext, rx, L) I E 24 [some (.ref 520), some (.int x1), some (.int x2), some (.int ((I 507) j1))] [.int (((I 499) 1) - r7)] [] []) ok_X14_pushed rfl q_cn ?_
      cases hf
      exact q_kri ok_X14_pushed rfl rfl rfl (Nat.le_of_ble_eq_true rfl) (Nat.le_of_ble_eq_true rfl) ⟨rfl, q_hpe (q_pdw [] rfl rfl) (q_pdw [] rfl rfl)⟩
    | 14, ht9 =>
      have hx9 : x1 = 19 := hx9
      cases ht9
      have hf := q_in (fun hz9 => absurd (hx9.symm.trans hz9) (by decide)) hf
      have hf := q_in (fun hz9 => absurd (hx9.symm.trans hz9) (by decide)) hf
      have hf := q_in (fun hz9 => absurd (hx9.symm.trans hz9) (by decide)) hf
      have hf := q_in (fun hz9 => absurd (hx9.symm.trans hz9) (by decide)) hf
      have hf := q_in (fun hz9 => absurd (hx9.symm.trans hz9) (by decide)) hf
      have hf := q_in (fun hz9 => absurd (hx9.symm.trans hz9) (by decide)) hf
      have hf := q_in (fun hz9 => absurd (hx9.symm.trans hz9) (by decide)) hf
      have hf := q_in (fun hz9 => absurd (hx9.symm.trans hz9) (by decide)) hf
      have hf := q_in (fun hz9 => absurd (hx9.symm.trans hz9) (by decide)) hf
      have hf := q_in (fun hz9 => absurd (hx9.symm.trans hz9) (by decide)) hf
      have hf := q_in (fun hz9 => absurd (hx9.symm.trans hz9) (by decide)) hf
      have hf := q_in (fun hz9 => absurd (hx9.symm.trans hz9) (by decide)) hf
      have hf := q_in (fun hz9 => absurd (hx9.symm.trans hz9) (by decide)) hf
      have hf := q_in (fun hz9 => absurd (hx9.symm.trans hz9) (by decide)) hf
      have hf := q_ip hx9 hf
      refine q_blk 2 [] (c' := q_kc (t, r, 1, z, N, ext, rx, L) I E 27 [some (.ref 520), some (.int x1), some (.int x2), some (.int ((I 507) j1))] [.int ((I 520) 3)] [] []) ok_X14_pushed rfl q_cn ?_
      cases hf
      exact q_kri ok_X14_pushed rfl rfl rfl (Nat.le_of_ble_eq_true rfl) (Nat.le_of_ble_eq_true rfl) ⟨rfl, q_hpe (q_pdw [] rfl rfl) (q_pdw [] rfl rfl)⟩
    | 15, ht9 =>
      have hx9 : x1 = 20 := hx9
      cases ht9
      have hf := q_in (fun hz9 => absurd (hx9.symm.trans hz9) (by decide)) hf
      have hf := q_in (fun hz9 => absurd (hx9.symm.trans hz9) (by decide)) hf
      have hf := q_in (fun hz9 => absurd (hx9.symm.trans hz9) (by decide)) hf
      have hf := q_in (fun hz9 => absurd (hx9.symm.trans hz9) (by decide)) hf
      have hf := q_in (fun hz9 => absurd (hx9.symm.trans hz9) (by decide)) hf
      have hf := q_in (fun hz9 => absurd (hx9.symm.trans hz9) (by decide)) hf
      have hf := q_in (fun hz9 => absurd (hx9.symm.trans hz9) (by decide)) hf
      have hf := q_in (fun hz9 => absurd (hx9.symm.trans hz9) (by decide)) hf
      have hf := q_in (fun hz9 => absurd (hx9.symm.trans hz9) (by decide)) hf
      have hf := q_in (fun hz9 => absurd (hx9.symm.trans hz9) (by decide)) hf
      have hf := q_in (fun hz9 => absurd (hx9.symm.trans hz9) (by decide)) hf
      have hf := q_in (fun hz9 => absurd (hx9.symm.trans hz9) (by decide)) hf
      have hf := q_in (fun hz9 => absurd (hx9.symm.trans hz9) (by decide)) hf
      have hf := q_in (fun hz9 => absurd (hx9.symm.trans hz9) (by decide)) hf
      have hf := q_in (fun hz9 => absurd (hx9.symm.trans hz9) (by decide)) hf
      have hf := q_ip hx9 hf
      refine q_blk 1 [] (c' := q_kc (t, r, 1, z, N, ext, rx, L) I E 29 [some (.ref 520), some (.int x1), some (.int x2), some (.int ((I 507) j1))] [.ref 520] [] []) ok_X14_pushed rfl q_cn ?_
      obtain ⟨r8, hr8, hf⟩ := q_bd hf
      refine q_kV (M2 := m_X14_bales_) (As := []) (b := 520) (v2 := some (.int r8)) ok_X14_pushed ok_X14_bales_ cv_X14_bales_ (ct_X14_bales__520 (d := 2) (Nat.le_refl _) hr8) rfl rfl (Or.inl rfl) rfl rfl rfl rfl (Nat.le_trans (Nat.le_of_ble_eq_true rfl) hd) (Nat.le_of_ble_eq_true rfl) (Nat.le_of_ble_eq_true rfl) (Nat.le_of_ble_eq_true rfl) (fun x hx => absurd hx List.not_mem_nil) (q_nmL0 _) (q_nmS0 _) rfl (pos' := 30) (st' := [.int r8]) (lI' := []) (lE' := []) rfl rfl rfl rfl ?_
      cases hf
      exact q_kri ok_X14_pushed rfl rfl rfl (Nat.le_of_ble_eq_true rfl) (Nat.le_of_ble_eq_true rfl) ⟨rfl, q_hpe (q_pdw [] rfl rfl) (q_pdw [] rfl rfl)⟩
    | 16, ht9 =>
      have hx9 : x1 = 21 := hx9
      cases ht9
      have hf := q_in (fun hz9 => absurd (hx9.symm.trans hz9) (by decide)) hf
      have hf := q_in (fun hz9 => absurd (hx9.symm.trans hz9) (by decide)) hf
      have hf := q_in (fun hz9 => absurd (hx9.symm.trans hz9) (by decide)) hf
      have hf := q_in (fun hz9 => absurd (hx9.symm.trans hz9) (by decide)) hf
      have hf := q_in (fun hz9 => absurd (hx9.symm.trans hz9) (by decide)) hf
      have hf := q_in (fun hz9 => absurd (hx9.symm.trans hz9) (by decide)) hf
      have hf := q_in (fun hz9 => absurd (hx9.symm.trans hz9) (by decide)) hf
      have hf := q_in (fun hz9 => absurd (hx9.symm.trans hz9) (by decide)) hf
      have hf := q_in (fun hz9 => absurd (hx9.symm.trans hz9) (by decide)) hf
      have hf := q_in (fun hz9 => absurd (hx9.symm.trans hz9) (by decide)) hf
      have hf := q_in (fun hz9 => absurd (hx9.symm.trans hz9) (by decide)) hf
      have hf := q_in (fun hz9 => absurd (hx9.symm.trans hz9) (by decide)) hf
      have hf := q_in (fun hz9 => absurd (hx9.symm.trans hz9) (by decide)) hf
      have hf := q_in (fun hz9 => absurd (hx9.symm.trans hz9) (by decide)) hf
      have hf := q_in (fun hz9 => absurd (hx9.symm.trans hz9) (by decide)) hf
      have hf := q_in (fun hz9 => absurd (hx9.symm.trans hz9) (by decide)) hf
      have hf := q_ip hx9 hf
      obtain ⟨j9, hj9, hf⟩ := q_bd hf
      refine q_blf 5 [j9] (a := q_kc (t, r, 1, z, N, ext, rx, L) I E 55 [some (.ref 520), some (.int x1), some (.int x2), some (.int ((I 507) j1))] [] [] []) (b := q_kc (t, r, 1, z, N, ext, rx, L) I E 53 [some (.ref 520), some (.int x1), some (.int x2), some (.int ((I 507) j1))] [] [] []) (P := ¬ ((I 521) j9) = (-1 : Int32)) ok_X14_pushed rfl (q_cc hj9 q_cn) (fun h10 => ?_) (fun h10 => ?_)
      · have hf := q_ip h10 hf
        obtain ⟨j11, hj11, hf⟩ := q_bd hf
        obtain ⟨j12, hj12, hf⟩ := q_bd hf
        refine q_blk 7 [j11, j12] (c' := q_kc (t, r, 1, z, N, ext, rx, L) I E 62 [some (.ref 520), some (.int x1), some (.int x2), some (.int ((I 507) j1))] [.int ((I 526) j12)] [] []) ok_X14_pushed rfl (q_cc hj12 (q_cc hj11 q_cn)) ?_
        cases hf
        exact q_kri ok_X14_pushed rfl rfl rfl (Nat.le_of_ble_eq_true rfl) (Nat.le_of_ble_eq_true rfl) ⟨rfl, q_hpe (q_pdw [] rfl rfl) (q_pdw [] rfl rfl)⟩
      · have hf := q_in h10 hf
        refine q_blk 2 [] (c' := q_kc (t, r, 1, z, N, ext, rx, L) I E 62 [some (.ref 520), some (.int x1), some (.int x2), some (.int ((I 507) j1))] [.int (0 : Int32)] [] []) ok_X14_pushed rfl q_cn ?_
        cases hf
        exact q_kri ok_X14_pushed rfl rfl rfl (Nat.le_of_ble_eq_true rfl) (Nat.le_of_ble_eq_true rfl) ⟨rfl, q_hpe (q_pdw [] rfl rfl) (q_pdw [] rfl rfl)⟩
    | 17, ht9 =>
      have hx9 : x1 = 22 := hx9
      cases ht9
      have hf := q_in (fun hz9 => absurd (hx9.symm.trans hz9) (by decide)) hf
      have hf := q_in (fun hz9 => absurd (hx9.symm.trans hz9) (by decide)) hf
      have hf := q_in (fun hz9 => absurd (hx9.symm.trans hz9) (by decide)) hf
      have hf := q_in (fun hz9 => absurd (hx9.symm.trans hz9) (by decide)) hf
      have hf := q_in (fun hz9 => absurd (hx9.symm.trans hz9) (by decide)) hf
      have hf := q_in (fun hz9 => absurd (hx9.symm.trans hz9) (by decide)) hf
      have hf := q_in (fun hz9 => absurd (hx9.symm.trans hz9) (by decide)) hf
      have hf := q_in (fun hz9 => absurd (hx9.symm.trans hz9) (by decide)) hf
      have hf := q_in (fun hz9 => absurd (hx9.symm.trans hz9) (by decide)) hf
      have hf := q_in (fun hz9 => absurd (hx9.symm.trans hz9) (by decide)) hf
      have hf := q_in (fun hz9 => absurd (hx9.symm.trans hz9) (by decide)) hf
      have hf := q_in (fun hz9 => absurd (hx9.symm.trans hz9) (by decide)) hf
      have hf := q_in (fun hz9 => absurd (hx9.symm.trans hz9) (by decide)) hf
      have hf := q_in (fun hz9 => absurd (hx9.symm.trans hz9) (by decide)) hf
      have hf := q_in (fun hz9 => absurd (hx9.symm.trans hz9) (by decide)) hf
      have hf := q_in (fun hz9 => absurd (hx9.symm.trans hz9) (by decide)) hf
      have hf := q_in (fun hz9 => absurd (hx9.symm.trans hz9) (by decide)) hf
      have hf := q_ip hx9 hf
      obtain ⟨j13, hj13, hf⟩ := q_bd hf
      refine q_blf 5 [j13] (a := q_kc (t, r, 1, z, N, ext, rx, L) I E 71 [some (.ref 520), some (.int x1), some (.int x2), some (.int ((I 507) j1))] [] [] []) (b := q_kc (t, r, 1, z, N, ext, rx, L) I E 69 [some (.ref 520), some (.int x1), some (.int x2), some (.int ((I 507) j1))] [] [] []) (P := ¬ ((I 521) j13) = (-1 : Int32)) ok_X14_pushed rfl (q_cc hj13 q_cn) (fun h14 => ?_) (fun h14 => ?_)
      · have hf := q_ip h14 hf
        refine q_blk 1 [] (c' := q_kc (t, r, 1, z, N, ext, rx, L) I E 72 [some (.ref 520), some (.int x1), some (.int x2), some (.int ((I 507) j1))] [.int (1 : Int32)] [] []) ok_X14_pushed rfl q_cn ?_
        cases hf
        exact q_kri ok_X14_pushed rfl rfl rfl (Nat.le_of_ble_eq_true rfl) (Nat.le_of_ble_eq_true rfl) ⟨rfl, q_hpe (q_pdw [] rfl rfl) (q_pdw [] rfl rfl)⟩
      · have hf := q_in h14 hf
        refine q_blk 2 [] (c' := q_kc (t, r, 1, z, N, ext, rx, L) I E 72 [some (.ref 520), some (.int x1), some (.int x2), some (.int ((I 507) j1))] [.int (0 : Int32)] [] []) ok_X14_pushed rfl q_cn ?_
        cases hf
        exact q_kri ok_X14_pushed rfl rfl rfl (Nat.le_of_ble_eq_true rfl) (Nat.le_of_ble_eq_true rfl) ⟨rfl, q_hpe (q_pdw [] rfl rfl) (q_pdw [] rfl rfl)⟩
    | 18, ht9 =>
      have hx9 : x1 = 23 := hx9
      cases ht9
      have hf := q_in (fun hz9 => absurd (hx9.symm.trans hz9) (by decide)) hf
      have hf := q_in (fun hz9 => absurd (hx9.symm.trans hz9) (by decide)) hf
      have hf := q_in (fun hz9 => absurd (hx9.symm.trans hz9) (by decide)) hf
      have hf := q_in (fun hz9 => absurd (hx9.symm.trans hz9) (by decide)) hf
      have hf := q_in (fun hz9 => absurd (hx9.symm.trans hz9) (by decide)) hf
      have hf := q_in (fun hz9 => absurd (hx9.symm.trans hz9) (by decide)) hf
      have hf := q_in (fun hz9 => absurd (hx9.symm.trans hz9) (by decide)) hf
      have hf := q_in (fun hz9 => absurd (hx9.symm.trans hz9) (by decide)) hf
      have hf := q_in (fun hz9 => absurd (hx9.symm.trans hz9) (by decide)) hf
      have hf := q_in (fun hz9 => absurd (hx9.symm.trans hz9) (by decide)) hf
      have hf := q_in (fun hz9 => absurd (hx9.symm.trans hz9) (by decide)) hf
      have hf := q_in (fun hz9 => absurd (hx9.symm.trans hz9) (by decide)) hf
      have hf := q_in (fun hz9 => absurd (hx9.symm.trans hz9) (by decide)) hf
      have hf := q_in (fun hz9 => absurd (hx9.symm.trans hz9) (by decide)) hf
      have hf := q_in (fun hz9 => absurd (hx9.symm.trans hz9) (by decide)) hf
      have hf := q_in (fun hz9 => absurd (hx9.symm.trans hz9) (by decide)) hf
      have hf := q_in (fun hz9 => absurd (hx9.symm.trans hz9) (by decide)) hf
      have hf := q_in (fun hz9 => absurd (hx9.symm.trans hz9) (by decide)) hf
      have hf := q_ip hx9 hf
      obtain ⟨j15, hj15, hf⟩ := q_bd hf
      refine q_blf 5 [j15] (a := q_kc (t, r, 1, z, N, ext, rx, L) I E 97 [some (.ref 520), some (.int x1), some (.int x2), some (.int ((I 507) j1))] [] [] []) (b := q_kc (t, r, 1, z, N, ext, rx, L) I E 79 [some (.ref 520), some (.int x1), some (.int x2), some (.int ((I 507) j1))] [] [] []) (P := ((I 521) j15) = (-1 : Int32)) ok_X14_pushed rfl (q_cc hj15 q_cn) (fun h16 => ?_) (fun h16 => ?_)
      · have hf := q_ip h16 hf
        refine q_blk 1 [] (c' := q_kc (t, r, 1, z, N, ext, rx, L) I E 98 [some (.ref 520), some (.int x1), some (.int x2), some (.int ((I 507) j1))] [.int (0 : Int32)] [] []) ok_X14_pushed rfl q_cn ?_
        cases hf
        exact q_kri ok_X14_pushed rfl rfl rfl (Nat.le_of_ble_eq_true rfl) (Nat.le_of_ble_eq_true rfl) ⟨rfl, q_hpe (q_pdw [] rfl rfl) (q_pdw [] rfl rfl)⟩
      · have hf := q_in h16 hf
        obtain ⟨j17, hj17, hf⟩ := q_bd hf
        obtain ⟨j18, hj18, hf⟩ := q_bd hf
        obtain ⟨j19, hj19, hf⟩ := q_bd hf
        refine q_blf 15 [j17, j18, j19] (a := q_kc (t, r, 1, z, N, ext, rx, L) I E 97 [some (.ref 520), some (.int x1), some (.int x2), some (.int ((I 507) j1))] [] [] []) (b := q_kc (t, r, 1, z, N, ext, rx, L) I E 95 [some (.ref 520), some (.int x1), some (.int x2), some (.int ((I 507) j1))] [] [] []) (P := ¬ ((I 521) j17) = ((I 521) j19)) ok_X14_pushed rfl (q_cc hj19 (q_cc hj18 (q_cc hj17 q_cn))) (fun h20 => ?_) (fun h20 => ?_)
        · have hf := q_ip h20 hf
          refine q_blk 1 [] (c' := q_kc (t, r, 1, z, N, ext, rx, L) I E 98 [some (.ref 520), some (.int x1), some (.int x2), some (.int ((I 507) j1))] [.int (0 : Int32)] [] []) ok_X14_pushed rfl q_cn ?_
          cases hf
          exact q_kri ok_X14_pushed rfl rfl rfl (Nat.le_of_ble_eq_true rfl) (Nat.le_of_ble_eq_true rfl) ⟨rfl, q_hpe (q_pdw [] rfl rfl) (q_pdw [] rfl rfl)⟩
        · have hf := q_in h20 hf
          refine q_blk 2 [] (c' := q_kc (t, r, 1, z, N, ext, rx, L) I E 98 [some (.ref 520), some (.int x1), some (.int x2), some (.int ((I 507) j1))] [.int (1 : Int32)] [] []) ok_X14_pushed rfl q_cn ?_
          cases hf
          exact q_kri ok_X14_pushed rfl rfl rfl (Nat.le_of_ble_eq_true rfl) (Nat.le_of_ble_eq_true rfl) ⟨rfl, q_hpe (q_pdw [] rfl rfl) (q_pdw [] rfl rfl)⟩
    | z9 + 19, ht9 => cases ht9
  · have hf := q_in (hx9 0 (by decide)) hf
    have hf := q_in (hx9 1 (by decide)) hf
    have hf := q_in (hx9 2 (by decide)) hf
    have hf := q_in (hx9 3 (by decide)) hf
    have hf := q_in (hx9 4 (by decide)) hf
    have hf := q_in (hx9 5 (by decide)) hf
    have hf := q_in (hx9 6 (by decide)) hf
    have hf := q_in (hx9 7 (by decide)) hf
    have hf := q_in (hx9 8 (by decide)) hf
    have hf := q_in (hx9 9 (by decide)) hf
    have hf := q_in (hx9 10 (by decide)) hf
    have hf := q_in (hx9 11 (by decide)) hf
    have hf := q_in (hx9 12 (by decide)) hf
    have hf := q_in (hx9 13 (by decide)) hf
    have hf := q_in (hx9 14 (by decide)) hf
    have hf := q_in (hx9 15 (by decide)) hf
    have hf := q_in (hx9 16 (by decide)) hf
    have hf := q_in (hx9 17 (by decide)) hf
    have hf := q_in (hx9 18 (by decide)) hf
    refine q_blk 1 [] (c' := q_kc (t, r, 1, z, N, ext, rx, L) I E 100 [some (.ref 520), some (.int x1), some (.int x2), some (.int ((I 507) j1))] [.int ((I 507) j1)] [] []) ok_X14_pushed rfl q_cn ?_
    cases hf
    exact q_kri ok_X14_pushed rfl rfl rfl (Nat.le_of_ble_eq_true rfl) (Nat.le_of_ble_eq_true rfl) ⟨rfl, q_hpe (q_pdw [] rfl rfl) (q_pdw [] rfl rfl)⟩
