set_option maxHeartbeats 4000000 in
theorem lp_X14_make_L29_512 {g : q_G} {d mc ms : Nat} {h0 : q_H} {Q : (Option Value ⊕ String) → q_H → Prop} {k n : Nat} {t : Nat} {r : Nat} {m : Nat} {z : Nat} {N : Nat} {ext : Nat → q_Sh} {rx : Nat → Nat → Option Nat} {L : Nat → Nat → Int64} (hd : 7 ≤ d) (hk : k ≤ mc) (hn : n ≤ ms)  {v1 : Int32} {v2 : Int32} {v3 : Int32} {v4 : Int32} : ∀ (fu : Nat) {I : Nat → Nat → Int32} {E : Nat → Nat → Option Nat} {v5 : Int32} {r0 : Int32} (hf : f_X14_make_L29 (I 514) fu v5 = some r0) (hK0 : q_J g m_X14_make d mc ms h0 [] Q k n (q_kc (t, r, m, z, N, ext, rx, L) I E 36 [some (.ref 512), some (.int v1), some (.int v2), some (.int v3), some (.int v4), some (.int r0), none] [] [] [])), q_J g m_X14_make d mc ms h0 [] Q k n (29, [some (.ref 512), some (.int v1), some (.int v2), some (.int v3), some (.int v4), some (.int v5), none], [], q_hp (t, r, m, z, N, ext, rx, L) I E) := by
  intro fu
  induction fu with
  | zero =>
    intro I E v5 r0 hf hK0
    rw [f_X14_make_L29] at hf
    cases hf
  | succ fu ih =>
    intro I E v5 r0 hf hK0
    rw [f_X14_make_L29] at hf
    change q_J g m_X14_make d mc ms h0 [] Q k n (q_kc (t, r, m, z, N, ext, rx, L) I E 29 [some (.ref 512), some (.int v1), some (.int v2), some (.int v3), some (.int v4), some (.int v5), none] [] [] [])
    obtain ⟨j1, hj1, hf⟩ := q_bd hf
    refine q_blf 4 [j1] (a := q_kc (t, r, m, z, N, ext, rx, L) I E 36 [some (.ref 512), some (.int v1), some (.int v2), some (.int v3), some (.int v4), some (.int v5), none] [] [] []) (b := q_kc (t, r, m, z, N, ext, rx, L) I E 34 [some (.ref 512), some (.int v1), some (.int v2), some (.int v3), some (.int v4), some (.int v5), none] [] [] []) (P := ((I 514) j1) = 0) ok_X14_make rfl (q_cc hj1 q_cn) (fun h2 => ?_) (fun h2 => ?_)
    · have hf := q_ip h2 hf
      cases hf
      exact q_Jpad (q_pdw [] rfl rfl) (q_pdw [] rfl rfl) hK0
    · have hf := q_in h2 hf
      refine q_blk 2 [] (c' := q_kc (t, r, m, z, N, ext, rx, L) I E 29 [some (.ref 512), some (.int v1), some (.int v2), some (.int v3), some (.int v4), some (.int (v5 + 1)), none] [] [] []) ok_X14_make rfl q_cn ?_
      exact ih (I := q_ws I []) (E := q_ws E []) hf (q_Jmrg (q_mgw rfl rfl) (q_mgw rfl rfl) hK0)
set_option maxHeartbeats 4000000 in
theorem lp_X14_make_L63_512 {g : q_G} {d mc ms : Nat} {h0 : q_H} {Q : (Option Value ⊕ String) → q_H → Prop} {k n : Nat} {t : Nat} {r : Nat} {m : Nat} {z : Nat} {N : Nat} {ext : Nat → q_Sh} {rx : Nat → Nat → Option Nat} {L : Nat → Nat → Int64} (hd : 7 ≤ d) (hk : k ≤ mc) (hn : n ≤ ms)  {v1 : Int32} {v5 : Int32} : ∀ (fu : Nat) {I : Nat → Nat → Int32} {E : Nat → Nat → Option Nat} {v6 : Int32} {r0 : (Nat → Int32)} (hf : f_X14_make_L63 v5 fu (I 519) v6 = some r0) (hK0 : q_J g m_X14_make d mc ms h0 [] Q k n (q_kc (t, r, m, z, N, ext, rx, L) I E 77 [some (.ref 512), some (.int v1), none, none, none, some (.int v5), none] [] [(519, r0)] [])), q_J g m_X14_make d mc ms h0 [] Q k n (63, [some (.ref 512), some (.int v1), none, none, none, some (.int v5), some (.int v6)], [], q_hp (t, r, m, z, N, ext, rx, L) I E) := by
  intro fu
  induction fu with
  | zero =>
    intro I E v6 r0 hf hK0
    rw [f_X14_make_L63] at hf
    cases hf
  | succ fu ih =>
    intro I E v6 r0 hf hK0
    rw [f_X14_make_L63] at hf
    change q_J g m_X14_make d mc ms h0 [] Q k n (q_kc (t, r, m, z, N, ext, rx, L) I E 63 [some (.ref 512), some (.int v1), none, none, none, some (.int v5), some (.int v6)] [] [] [])
    refine q_blf 2 [] (a := q_kc (t, r, m, z, N, ext, rx, L) I E 77 [some (.ref 512), some (.int v1), none, none, none, some (.int v5), some (.int v6)] [] [] []) (b := q_kc (t, r, m, z, N, ext, rx, L) I E 66 [some (.ref 512), some (.int v1), none, none, none, some (.int v5), some (.int v6)] [] [] []) (P := (3 : Int32) ≤ v6) ok_X14_make rfl q_cn (fun h3 => ?_) (fun h3 => ?_)
    · have hf := q_ip h3 hf
      refine q_less (ls' := [some (.ref 512), some (.int v1), none, none, none, some (.int v5), none]) (q_sb2 (q_sb2 (q_sb1 (q_sb1 (q_sb1 (q_sb2 (q_sb1 q_sb0))))))) ?_
      cases hf
      exact q_Jpad (q_pdw [519] rfl rfl) (q_pdw [] rfl rfl) hK0
    · have hf := q_in h3 hf
      obtain ⟨j4, hj4, hf⟩ := q_bd hf
      refine q_blk 11 [j4] (c' := q_kc (t, r, m, z, N, ext, rx, L) I E 63 [some (.ref 512), some (.int v1), none, none, none, some (.int v5), some (.int (v6 + 1))] [] [(519, (q_up (I 519) j4 (-1 : Int32)))] []) ok_X14_make rfl (q_cc hj4 q_cn) ?_
      exact ih (I := q_ws I [(519, (q_up (I 519) j4 (-1 : Int32)))]) (E := q_ws E []) hf (q_Jmrg (q_mgw rfl rfl) (q_mgw rfl rfl) hK0)
set_option maxHeartbeats 4000000 in
theorem ct_X14_make_512 {g : q_G} {t : Nat} {r : Nat} {ext : Nat → q_Sh} {rx : Nat → Nat → Option Nat} {L : Nat → Nat → Int64} {d : Nat} (hd : 7 ≤ d)  {I : Nat → Nat → Int32} {E : Nat → Nat → Option Nat} {x1 : Int32} {x2 : Int32} {x3 : Int32} {r0 : Bool × (Nat → Int32) × (Nat → Int32) × (Nat → Int32) × (Nat → Int32) × (Nat → Int32) × (Nat → Int32) × (Nat → Int32) × (Nat → Int32) × (Nat → Int32) × (Nat → Int32) × (Nat → Int32)} (hf : f_X14_make (I 492) (I 499) (I 510) (I 511) (I 512) (I 513) (I 514) (I 515) (I 516) (I 517) (I 518) (I 519) x1 x2 x3 = some r0) : q_Ct g m_X14_make d 1 136 [] [.ref 512, .int x1, .int x2, .int x3] (q_hp (t, r, 1, 499, 529, ext, rx, L) I E) (fun o h' => o = .inl (some (.int (q_bz r0.1))) ∧ h' = q_hp (t, r, 1, 499, 529, ext, rx, L) (q_ws I [(492, r0.2.1), (510, r0.2.2.1), (511, r0.2.2.2.1), (512, r0.2.2.2.2.1), (513, r0.2.2.2.2.2.1), (514, r0.2.2.2.2.2.2.1), (515, r0.2.2.2.2.2.2.2.1), (516, r0.2.2.2.2.2.2.2.2.1), (517, r0.2.2.2.2.2.2.2.2.2.1), (518, r0.2.2.2.2.2.2.2.2.2.2.1), (519, r0.2.2.2.2.2.2.2.2.2.2.2)]) (q_ws E [])) := by
  rw [f_X14_make] at hf
  refine q_Ct_of ok_X14_make (Nat.le_of_ble_eq_true rfl) ?_ _ rfl rfl
  change q_J g m_X14_make d 1 136 _ [] _ 0 0 (q_kc (t, r, 1, 499, 529, ext, rx, L) I E 0 [some (.ref 512), some (.int x1), some (.int x2), some (.int x3), none, none, none] [] [] [])
  refine q_blk 6 [] (c' := q_kc (t, r, 1, 499, 529, ext, rx, L) I E 6 [some (.ref 512), some (.int x1), some (.int x2), some (.int x3), none, none, none] [.int (1 : Int32), .ref 512, .int ((I 499) 1)] [] []) ok_X14_make rfl q_cn ?_
  obtain ⟨r5, hr5, hf⟩ := q_bd hf
  refine q_kV (M2 := m_X14_used) (As := [.int (1 : Int32)]) (b := 512) (v2 := some (.int r5)) ok_X14_make ok_X14_used cv_X14_used (ct_X14_used_512 (d := 1) (Nat.le_refl _) hr5) rfl rfl (Or.inl rfl) rfl rfl rfl rfl (Nat.le_trans (Nat.le_of_ble_eq_true rfl) hd) (Nat.le_of_ble_eq_true rfl) (Nat.le_of_ble_eq_true rfl) (Nat.le_of_ble_eq_true rfl) (fun x hx => absurd hx List.not_mem_nil) (q_nmL0 _) (q_nmS0 _) rfl (pos' := 7) (st' := [.int r5, .int ((I 499) 1)]) (lI' := []) (lE' := []) rfl rfl rfl rfl ?_
  refine q_blf 2 [] (a := q_kc (t, r, 1, 499, 529, ext, rx, L) I E 13 [some (.ref 512), some (.int x1), some (.int x2), some (.int x3), none, none, none] [] [] []) (b := q_kc (t, r, 1, 499, 529, ext, rx, L) I E 10 [some (.ref 512), some (.int x1), some (.int x2), some (.int x3), none, none, none] [] [] []) (P := x2 ≤ (((I 499) 1) - r5)) ok_X14_make rfl q_cn (fun h6 => ?_) (fun h6 => ?_)
  · have hf := q_ip h6 hf
    refine q_blk 2 [] (c' := q_kc (t, r, 1, 499, 529, ext, rx, L) I E 15 [some (.ref 512), some (.int x1), some (.int x2), some (.int x3), none, none, none] [.int (1 : Int32), .ref 512] [] []) ok_X14_make rfl q_cn ?_
    obtain ⟨r7, hr7, hf⟩ := q_bd hf
    refine q_kV (M2 := m_X14_used) (As := [.int (1 : Int32)]) (b := 512) (v2 := some (.int r7)) ok_X14_make ok_X14_used cv_X14_used (ct_X14_used_512 (d := 1) (Nat.le_refl _) hr7) rfl rfl (Or.inl rfl) rfl rfl rfl rfl (Nat.le_trans (Nat.le_of_ble_eq_true rfl) hd) (Nat.le_of_ble_eq_true rfl) (Nat.le_of_ble_eq_true rfl) (Nat.le_of_ble_eq_true rfl) (fun x hx => absurd hx List.not_mem_nil) (q_nmL0 _) (q_nmS0 _) rfl (pos' := 16) (st' := [.int r7]) (lI' := []) (lE' := []) rfl rfl rfl rfl ?_
    refine q_blf 8 [] (a := q_kc (t, r, 1, 499, 529, ext, rx, L) I E 27 [some (.ref 512), some (.int x1), some (.int x2), some (.int x3), some (.int r7), none, none] [] [] []) (b := q_kc (t, r, 1, 499, 529, ext, rx, L) I E 25 [some (.ref 512), some (.int x1), some (.int x2), some (.int x3), some (.int r7), none, none] [] [] []) (P := x2 ≤ (((I 499) 1) - r7)) ok_X14_make rfl q_cn (fun h8 => ?_) (fun h8 => ?_)
    · have hf := q_ip h8 hf
      refine q_blk 2 [] (c' := q_kc (t, r, 1, 499, 529, ext, rx, L) I E 29 [some (.ref 512), some (.int x1), some (.int x2), some (.int x3), some (.int r7), some (.int (0 : Int32)), none] [] [] []) ok_X14_make rfl q_cn ?_
      obtain ⟨r9, hr9, hf⟩ := q_bd hf
      refine lp_X14_make_L29_512 (I := q_ws I []) (E := q_ws E []) hd (Nat.le_of_ble_eq_true rfl) (Nat.le_of_ble_eq_true rfl) 4096 hr9 ?_
      refine q_Jmrg (lI' := []) (lE' := []) (q_mgw rfl rfl) (q_mgw rfl rfl) ?_
      obtain ⟨j10, hj10, hf⟩ := q_bd hf
      obtain ⟨j11, hj11, hf⟩ := q_bd hf
      obtain ⟨j12, hj12, hf⟩ := q_bd hf
      obtain ⟨j13, hj13, hf⟩ := q_bd hf
      obtain ⟨j14, hj14, hf⟩ := q_bd hf
      refine q_blk 27 [j10, j11, j12, j13, j14] (c' := q_kc (t, r, 1, 499, 529, ext, rx, L) I E 63 [some (.ref 512), some (.int x1), some (.int x2), some (.int x3), some (.int r7), some (.int r9), some (.int (0 : Int32))] [] [(514, (q_up (I 514) j10 (1 : Int32))), (515, (q_up (I 515) j11 r7)), (516, (q_up (I 516) j12 x2)), (517, (q_up (I 517) j13 x3)), (518, (q_up (I 518) j14 (0 : Int32)))] []) ok_X14_make rfl (q_cc hj14 (q_cc hj13 (q_cc hj12 (q_cc hj11 (q_cc hj10 q_cn))))) ?_
      refine q_less (ls' := [some (.ref 512), some (.int x1), none, none, none, some (.int r9), some (.int (0 : Int32))]) (q_sb2 (q_sb2 (q_sb1 (q_sb1 (q_sb1 (q_sb2 (q_sb2 q_sb0))))))) ?_
      obtain ⟨r15, hr15, hf⟩ := q_bd hf
      refine lp_X14_make_L63_512 (I := q_ws I [(514, (q_up (I 514) j10 (1 : Int32))), (515, (q_up (I 515) j11 r7)), (516, (q_up (I 516) j12 x2)), (517, (q_up (I 517) j13 x3)), (518, (q_up (I 518) j14 (0 : Int32)))]) (E := q_ws E []) hd (Nat.le_of_ble_eq_true rfl) (Nat.le_of_ble_eq_true rfl) 4096 hr15 ?_
      refine q_Jmrg (lI' := [(514, (q_up (I 514) j10 (1 : Int32))), (515, (q_up (I 515) j11 r7)), (516, (q_up (I 516) j12 x2)), (517, (q_up (I 517) j13 x3)), (518, (q_up (I 518) j14 (0 : Int32))), (519, r15)]) (lE' := []) (q_mgw rfl rfl) (q_mgw rfl rfl) ?_
      obtain ⟨j16, hj16, hf⟩ := q_bd hf
      refine q_blk 6 [j16] (c' := q_kc (t, r, 1, 499, 529, ext, rx, L) I E 83 [some (.ref 512), some (.int x1), none, none, none, some (.int r9), none] [.int (1 : Int32)] [(513, (q_up (I 513) j16 r9)), (514, (q_up (I 514) j10 (1 : Int32))), (515, (q_up (I 515) j11 r7)), (516, (q_up (I 516) j12 x2)), (517, (q_up (I 517) j13 x3)), (518, (q_up (I 518) j14 (0 : Int32))), (519, r15)] []) ok_X14_make rfl (q_cc hj16 q_cn) ?_
      cases hf
      exact q_kri ok_X14_make rfl rfl rfl (Nat.le_of_ble_eq_true rfl) (Nat.le_of_ble_eq_true rfl) ⟨rfl, q_hpe (q_pdw [492, 510, 511, 512, 513, 514, 515, 516, 517, 518, 519] rfl rfl) (q_pdw [] rfl rfl)⟩
    · have hf := q_in h8 hf
      refine q_blk 1 [] (c' := q_kc (t, r, 1, 499, 529, ext, rx, L) I E 26 [some (.ref 512), some (.int x1), some (.int x2), some (.int x3), some (.int r7), none, none] [.int (0 : Int32)] [] []) ok_X14_make rfl q_cn ?_
      cases hf
      exact q_kri ok_X14_make rfl rfl rfl (Nat.le_of_ble_eq_true rfl) (Nat.le_of_ble_eq_true rfl) ⟨rfl, q_hpe (q_pdw [492, 510, 511, 512, 513, 514, 515, 516, 517, 518, 519] rfl rfl) (q_pdw [] rfl rfl)⟩
  · have hf := q_in h6 hf
    refine q_blk 1 [] (c' := q_kc (t, r, 1, 499, 529, ext, rx, L) I E 11 [some (.ref 512), some (.int x1), some (.int x2), some (.int x3), none, none, none] [.ref 512] [] []) ok_X14_make rfl q_cn ?_
    obtain ⟨r17, hr17, hf⟩ := q_bd hf
    refine q_kV (M2 := m_X14_copyAll) (As := []) (b := 512) (v2 := some (.int r17.1)) ok_X14_make ok_X14_copyAll cv_X14_copyAll (ct_X14_copyAll_512 (d := 6) (Nat.le_refl _) hr17) rfl rfl (Or.inl rfl) rfl rfl rfl rfl (Nat.le_trans (Nat.le_of_ble_eq_true rfl) hd) (Nat.le_of_ble_eq_true rfl) (Nat.le_of_ble_eq_true rfl) (Nat.le_of_ble_eq_true rfl) (fun x hx => absurd hx List.not_mem_nil) (q_nmL0 _) (q_nmS0 _) rfl (pos' := 12) (st' := [.int r17.1]) (lI' := [(492, r17.2.1), (510, r17.2.2.1), (511, r17.2.2.2.1), (512, r17.2.2.2.2.1), (514, r17.2.2.2.2.2.1), (515, r17.2.2.2.2.2.2.1), (518, r17.2.2.2.2.2.2.2)]) (lE' := []) rfl rfl (q_mgw rfl rfl) rfl ?_
    refine q_blk 3 [] (c' := q_kc (t, r, 1, 499, 529, ext, rx, L) I E 15 [some (.ref 512), some (.int x1), some (.int x2), some (.int x3), none, none, none] [.int (1 : Int32), .ref 512] [(492, r17.2.1), (510, r17.2.2.1), (511, r17.2.2.2.1), (512, r17.2.2.2.2.1), (514, r17.2.2.2.2.2.1), (515, r17.2.2.2.2.2.2.1), (518, r17.2.2.2.2.2.2.2)] []) ok_X14_make rfl q_cn ?_
    obtain ⟨r18, hr18, hf⟩ := q_bd hf
    refine q_kV (M2 := m_X14_used) (As := [.int (1 : Int32)]) (b := 512) (v2 := some (.int r18)) ok_X14_make ok_X14_used cv_X14_used (ct_X14_used_512 (d := 1) (Nat.le_refl _) hr18) rfl rfl (Or.inl rfl) rfl rfl rfl rfl (Nat.le_trans (Nat.le_of_ble_eq_true rfl) hd) (Nat.le_of_ble_eq_true rfl) (Nat.le_of_ble_eq_true rfl) (Nat.le_of_ble_eq_true rfl) (fun x hx => absurd hx List.not_mem_nil) (q_nmL0 _) (q_nmS0 _) rfl (pos' := 16) (st' := [.int r18]) (lI' := [(492, r17.2.1), (510, r17.2.2.1), (511, r17.2.2.2.1), (512, r17.2.2.2.2.1), (514, r17.2.2.2.2.2.1), (515, r17.2.2.2.2.2.2.1), (518, r17.2.2.2.2.2.2.2)]) (lE' := []) rfl rfl rfl rfl ?_
    refine q_blf 8 [] (a := q_kc (t, r, 1, 499, 529, ext, rx, L) I E 27 [some (.ref 512), some (.int x1), some (.int x2), some (.int x3), some (.int r18), none, none] [] [(492, r17.2.1), (510, r17.2.2.1), (511, r17.2.2.2.1), (512, r17.2.2.2.2.1), (514, r17.2.2.2.2.2.1), (515, r17.2.2.2.2.2.2.1), (518, r17.2.2.2.2.2.2.2)] []) (b := q_kc (t, r, 1, 499, 529, ext, rx, L) I E 25 [some (.ref 512), some (.int x1), some (.int x2), some (.int x3), some (.int r18), none, none] [] [(492, r17.2.1), (510, r17.2.2.1), (511, r17.2.2.2.1), (512, r17.2.2.2.2.1), (514, r17.2.2.2.2.2.1), (515, r17.2.2.2.2.2.2.1), (518, r17.2.2.2.2.2.2.2)] []) (P := x2 ≤ (((I 499) 1) - r18)) ok_X14_make rfl q_cn (fun h19 => ?_) (fun h19 => ?_)
    · have hf := q_ip h19 hf
      refine q_blk 2 [] (c' := q_kc (t, r, 1, 499, 529, ext, rx, L) I E 29 [some (.ref 512), some (.int x1), some (.int x2), some (.int x3), some (.int r18), some (.int (0 : Int32)), none] [] [(492, r17.2.1), (510, r17.2.2.1), (511, r17.2.2.2.1), (512, r17.2.2.2.2.1), (514, r17.2.2.2.2.2.1), (515, r17.2.2.2.2.2.2.1), (518, r17.2.2.2.2.2.2.2)] []) ok_X14_make rfl q_cn ?_
      obtain ⟨r20, hr20, hf⟩ := q_bd hf
      refine lp_X14_make_L29_512 (I := q_ws I [(492, r17.2.1), (510, r17.2.2.1), (511, r17.2.2.2.1), (512, r17.2.2.2.2.1), (514, r17.2.2.2.2.2.1), (515, r17.2.2.2.2.2.2.1), (518, r17.2.2.2.2.2.2.2)]) (E := q_ws E []) hd (Nat.le_of_ble_eq_true rfl) (Nat.le_of_ble_eq_true rfl) 4096 hr20 ?_
      refine q_Jmrg (lI' := [(492, r17.2.1), (510, r17.2.2.1), (511, r17.2.2.2.1), (512, r17.2.2.2.2.1), (514, r17.2.2.2.2.2.1), (515, r17.2.2.2.2.2.2.1), (518, r17.2.2.2.2.2.2.2)]) (lE' := []) (q_mgw rfl rfl) (q_mgw rfl rfl) ?_
      obtain ⟨j21, hj21, hf⟩ := q_bd hf
      obtain ⟨j22, hj22, hf⟩ := q_bd hf
      obtain ⟨j23, hj23, hf⟩ := q_bd hf
      obtain ⟨j24, hj24, hf⟩ := q_bd hf
      obtain ⟨j25, hj25, hf⟩ := q_bd hf
      refine q_blk 27 [j21, j22, j23, j24, j25] (c' := q_kc (t, r, 1, 499, 529, ext, rx, L) I E 63 [some (.ref 512), some (.int x1), some (.int x2), some (.int x3), some (.int r18), some (.int r20), some (.int (0 : Int32))] [] [(492, r17.2.1), (510, r17.2.2.1), (511, r17.2.2.2.1), (512, r17.2.2.2.2.1), (514, (q_up r17.2.2.2.2.2.1 j21 (1 : Int32))), (515, (q_up r17.2.2.2.2.2.2.1 j22 r18)), (516, (q_up (I 516) j23 x2)), (517, (q_up (I 517) j24 x3)), (518, (q_up r17.2.2.2.2.2.2.2 j25 (0 : Int32)))] []) ok_X14_make rfl (q_cc hj25 (q_cc hj24 (q_cc hj23 (q_cc hj22 (q_cc hj21 q_cn))))) ?_
      refine q_less (ls' := [some (.ref 512), some (.int x1), none, none, none, some (.int r20), some (.int (0 : Int32))]) (q_sb2 (q_sb2 (q_sb1 (q_sb1 (q_sb1 (q_sb2 (q_sb2 q_sb0))))))) ?_
      obtain ⟨r26, hr26, hf⟩ := q_bd hf
      refine lp_X14_make_L63_512 (I := q_ws I [(492, r17.2.1), (510, r17.2.2.1), (511, r17.2.2.2.1), (512, r17.2.2.2.2.1), (514, (q_up r17.2.2.2.2.2.1 j21 (1 : Int32))), (515, (q_up r17.2.2.2.2.2.2.1 j22 r18)), (516, (q_up (I 516) j23 x2)), (517, (q_up (I 517) j24 x3)), (518, (q_up r17.2.2.2.2.2.2.2 j25 (0 : Int32)))]) (E := q_ws E []) hd (Nat.le_of_ble_eq_true rfl) (Nat.le_of_ble_eq_true rfl) 4096 hr26 ?_
      refine q_Jmrg (lI' := [(492, r17.2.1), (510, r17.2.2.1), (511, r17.2.2.2.1), (512, r17.2.2.2.2.1), (514, (q_up r17.2.2.2.2.2.1 j21 (1 : Int32))), (515, (q_up r17.2.2.2.2.2.2.1 j22 r18)), (516, (q_up (I 516) j23 x2)), (517, (q_up (I 517) j24 x3)), (518, (q_up r17.2.2.2.2.2.2.2 j25 (0 : Int32))), (519, r26)]) (lE' := []) (q_mgw rfl rfl) (q_mgw rfl rfl) ?_
      obtain ⟨j27, hj27, hf⟩ := q_bd hf
      refine q_blk 6 [j27] (c' := q_kc (t, r, 1, 499, 529, ext, rx, L) I E 83 [some (.ref 512), some (.int x1), none, none, none, some (.int r20), none] [.int (1 : Int32)] [(492, r17.2.1), (510, r17.2.2.1), (511, r17.2.2.2.1), (512, r17.2.2.2.2.1), (513, (q_up (I 513) j27 r20)), (514, (q_up r17.2.2.2.2.2.1 j21 (1 : Int32))), (515, (q_up r17.2.2.2.2.2.2.1 j22 r18)), (516, (q_up (I 516) j23 x2)), (517, (q_up (I 517) j24 x3)), (518, (q_up r17.2.2.2.2.2.2.2 j25 (0 : Int32))), (519, r26)] []) ok_X14_make rfl (q_cc hj27 q_cn) ?_
      cases hf
      exact q_kri ok_X14_make rfl rfl rfl (Nat.le_of_ble_eq_true rfl) (Nat.le_of_ble_eq_true rfl) ⟨rfl, q_hpe (q_pdw [492, 510, 511, 512, 513, 514, 515, 516, 517, 518, 519] rfl rfl) (q_pdw [] rfl rfl)⟩
    · have hf := q_in h19 hf
      refine q_blk 1 [] (c' := q_kc (t, r, 1, 499, 529, ext, rx, L) I E 26 [some (.ref 512), some (.int x1), some (.int x2), some (.int x3), some (.int r18), none, none] [.int (0 : Int32)] [(492, r17.2.1), (510, r17.2.2.1), (511, r17.2.2.2.1), (512, r17.2.2.2.2.1), (514, r17.2.2.2.2.2.1), (515, r17.2.2.2.2.2.2.1), (518, r17.2.2.2.2.2.2.2)] []) ok_X14_make rfl q_cn ?_
      cases hf
      exact q_kri ok_X14_make rfl rfl rfl (Nat.le_of_ble_eq_true rfl) (Nat.le_of_ble_eq_true rfl) ⟨rfl, q_hpe (q_pdw [492, 510, 511, 512, 513, 514, 515, 516, 517, 518, 519] rfl rfl) (q_pdw [] rfl rfl)⟩
set_option maxHeartbeats 4000000 in
theorem ct_X15_make_492 {g : q_G} {t : Nat} {r : Nat} {ext : Nat → q_Sh} {rx : Nat → Nat → Option Nat} {L : Nat → Nat → Int64} {d : Nat} (hd : 8 ≤ d)  {I : Nat → Nat → Int32} {E : Nat → Nat → Option Nat} {x1 : Int32} {x2 : Int32} {x3 : Int32} {r0 : Int32 × (Nat → Int32) × (Nat → Int32) × (Nat → Int32) × (Nat → Int32) × (Nat → Int32) × (Nat → Int32) × (Nat → Int32) × (Nat → Int32) × (Nat → Int32) × (Nat → Int32) × (Nat → Int32)} (hf : f_X15_make (I 492) (I 499) (I 510) (I 511) (I 512) (I 513) (I 514) (I 515) (I 516) (I 517) (I 518) (I 519) x1 x2 x3 = some r0) : q_Ct g m_X15_make d 1 136 [] [.ref 492, .int x1, .int x2, .int x3] (q_hp (t, r, 1, 499, 529, ext, rx, L) I E) (fun o h' => o = .inl (some (.int r0.1)) ∧ h' = q_hp (t, r, 1, 499, 529, ext, rx, L) (q_ws I [(492, r0.2.1), (510, r0.2.2.1), (511, r0.2.2.2.1), (512, r0.2.2.2.2.1), (513, r0.2.2.2.2.2.1), (514, r0.2.2.2.2.2.2.1), (515, r0.2.2.2.2.2.2.2.1), (516, r0.2.2.2.2.2.2.2.2.1), (517, r0.2.2.2.2.2.2.2.2.2.1), (518, r0.2.2.2.2.2.2.2.2.2.2.1), (519, r0.2.2.2.2.2.2.2.2.2.2.2)]) (q_ws E [])) := by
  rw [f_X15_make] at hf
  refine q_Ct_of ok_X15_make (Nat.le_of_ble_eq_true rfl) ?_ _ rfl rfl
  change q_J g m_X15_make d 1 136 _ [] _ 0 0 (q_kc (t, r, 1, 499, 529, ext, rx, L) I E 0 [some (.ref 492), some (.int x1), some (.int x2), some (.int x3)] [] [] [])
  refine q_blk 5 [] (c' := q_kc (t, r, 1, 499, 529, ext, rx, L) I E 5 [some (.ref 492), some (.int x1), some (.int x2), some (.int x3)] [.int x1, .ref 492] [(492, (q_up (I 492) 0 (0 : Int32)))] []) ok_X15_make rfl q_cn ?_
  obtain ⟨r1, hr1, hf⟩ := q_bd hf
  refine q_kV (M2 := m_X15_isHook) (As := [.int x1]) (b := 492) (v2 := some (.int (q_bz r1))) ok_X15_make ok_X15_isHook cv_X15_isHook (ct_X15_isHook_492 (d := 2) (Nat.le_refl _) hr1) rfl rfl (Or.inl rfl) rfl rfl rfl rfl (Nat.le_trans (Nat.le_of_ble_eq_true rfl) hd) (Nat.le_of_ble_eq_true rfl) (Nat.le_of_ble_eq_true rfl) (Nat.le_of_ble_eq_true rfl) (fun x hx => absurd hx List.not_mem_nil) (q_nmL0 _) (q_nmS0 _) rfl (pos' := 6) (st' := [.int (q_bz r1)]) (lI' := [(492, (q_up (I 492) 0 (0 : Int32)))]) (lE' := []) rfl rfl rfl rfl ?_
  refine q_blf 0 [] (a := q_kc (t, r, 1, 499, 529, ext, rx, L) I E 11 [some (.ref 492), some (.int x1), some (.int x2), some (.int x3)] [] [(492, (q_up (I 492) 0 (0 : Int32)))] []) (b := q_kc (t, r, 1, 499, 529, ext, rx, L) I E 7 [some (.ref 492), some (.int x1), some (.int x2), some (.int x3)] [] [(492, (q_up (I 492) 0 (0 : Int32)))] []) (P := ¬ (q_bz r1) = 0) ok_X15_make rfl q_cn (fun h2 => ?_) (fun h2 => ?_)
  · have hf := q_ip h2 hf
    refine q_blk 3 [] (c' := q_kc (t, r, 1, 499, 529, ext, rx, L) I E 14 [some (.ref 492), some (.int x1), some (.int x2), some (.int x3)] [.int (9 : Int32), .int (1 : Int32), .int x2] [(492, (q_up (I 492) 0 (0 : Int32)))] []) ok_X15_make rfl q_cn ?_
    obtain ⟨r3, hr3, hf⟩ := q_bd hf
    refine q_kS (M2 := m_X15_isIn) (As := [.int x2, .int (1 : Int32), .int (9 : Int32)]) (v2 := some (.int (q_bz r3))) ok_X15_make ok_X15_isIn cs_X15_isIn (ct_X15_isIn (d := 1) (Nat.le_refl _) hr3) rfl rfl (Or.inl rfl) (Nat.le_trans (Nat.le_of_ble_eq_true rfl) hd) (Nat.le_of_ble_eq_true rfl) (Nat.le_of_ble_eq_true rfl) (Nat.le_of_ble_eq_true rfl) (fun x hx => absurd hx List.not_mem_nil) (q_nmL0 _) (q_nmS0 _) rfl (pos' := 15) (st' := [.int (q_bz r3)]) (lI' := [(492, (q_up (I 492) 0 (0 : Int32)))]) (lE' := []) rfl rfl rfl rfl ?_
    refine q_blf 0 [] (a := q_kc (t, r, 1, 499, 529, ext, rx, L) I E 21 [some (.ref 492), some (.int x1), some (.int x2), some (.int x3)] [] [(492, (q_up (I 492) 0 (0 : Int32)))] []) (b := q_kc (t, r, 1, 499, 529, ext, rx, L) I E 16 [some (.ref 492), some (.int x1), some (.int x2), some (.int x3)] [] [(492, (q_up (I 492) 0 (0 : Int32)))] []) (P := (q_bz r3) = 0) ok_X15_make rfl q_cn (fun h4 => ?_) (fun h4 => ?_)
    · have hf := q_ip h4 hf
      refine q_blk 2 [] (c' := q_kc (t, r, 1, 499, 529, ext, rx, L) I E 23 [some (.ref 492), some (.int x1), some (.int x2), some (.int x3)] [.int (2 : Int32), .ref 492] [(492, (q_up (I 492) 0 (0 : Int32)))] []) ok_X15_make rfl q_cn ?_
      obtain ⟨r5, hr5, hf⟩ := q_bd hf
      refine q_kV (M2 := m_X15_no) (As := [.int (2 : Int32)]) (b := 492) (v2 := some (.int r5.1)) ok_X15_make ok_X15_no cv_X15_no (ct_X15_no_492 (d := 1) (Nat.le_refl _) hr5) rfl rfl (Or.inl rfl) rfl rfl rfl rfl (Nat.le_trans (Nat.le_of_ble_eq_true rfl) hd) (Nat.le_of_ble_eq_true rfl) (Nat.le_of_ble_eq_true rfl) (Nat.le_of_ble_eq_true rfl) (fun x hx => absurd hx List.not_mem_nil) (q_nmL0 _) (q_nmS0 _) rfl (pos' := 24) (st' := [.int r5.1]) (lI' := [(492, r5.2)]) (lE' := []) rfl rfl (q_mgw rfl rfl) rfl ?_
      cases hf
      exact q_kri ok_X15_make rfl rfl rfl (Nat.le_of_ble_eq_true rfl) (Nat.le_of_ble_eq_true rfl) ⟨rfl, q_hpe (q_pdw [492, 510, 511, 512, 513, 514, 515, 516, 517, 518, 519] rfl rfl) (q_pdw [] rfl rfl)⟩
    · have hf := q_in h4 hf
      refine q_blk 3 [] (c' := q_kc (t, r, 1, 499, 529, ext, rx, L) I E 19 [some (.ref 492), some (.int x1), some (.int x2), some (.int x3)] [.int (3 : Int32), .int (0 : Int32), .int x3] [(492, (q_up (I 492) 0 (0 : Int32)))] []) ok_X15_make rfl q_cn ?_
      obtain ⟨r6, hr6, hf⟩ := q_bd hf
      refine q_kS (M2 := m_X15_isIn) (As := [.int x3, .int (0 : Int32), .int (3 : Int32)]) (v2 := some (.int (q_bz r6))) ok_X15_make ok_X15_isIn cs_X15_isIn (ct_X15_isIn (d := 1) (Nat.le_refl _) hr6) rfl rfl (Or.inl rfl) (Nat.le_trans (Nat.le_of_ble_eq_true rfl) hd) (Nat.le_of_ble_eq_true rfl) (Nat.le_of_ble_eq_true rfl) (Nat.le_of_ble_eq_true rfl) (fun x hx => absurd hx List.not_mem_nil) (q_nmL0 _) (q_nmS0 _) rfl (pos' := 20) (st' := [.int (q_bz r6)]) (lI' := [(492, (q_up (I 492) 0 (0 : Int32)))]) (lE' := []) rfl rfl rfl rfl ?_
      refine q_blf 0 [] (a := q_kc (t, r, 1, 499, 529, ext, rx, L) I E 25 [some (.ref 492), some (.int x1), some (.int x2), some (.int x3)] [] [(492, (q_up (I 492) 0 (0 : Int32)))] []) (b := q_kc (t, r, 1, 499, 529, ext, rx, L) I E 21 [some (.ref 492), some (.int x1), some (.int x2), some (.int x3)] [] [(492, (q_up (I 492) 0 (0 : Int32)))] []) (P := ¬ (q_bz r6) = 0) ok_X15_make rfl q_cn (fun h7 => ?_) (fun h7 => ?_)
      · have hf := q_ip h7 hf
        refine q_blk 5 [] (c' := q_kc (t, r, 1, 499, 529, ext, rx, L) I E 30 [some (.ref 492), some (.int x1), some (.int x2), some (.int x3)] [.int x3, .int x2, .int x1, .ref 512] [(492, (q_up (I 492) 0 (0 : Int32)))] []) ok_X15_make rfl q_cn ?_
        obtain ⟨r8, hr8, hf⟩ := q_bd hf
        refine q_kV (M2 := m_X14_make) (As := [.int x1, .int x2, .int x3]) (b := 512) (v2 := some (.int (q_bz r8.1))) ok_X15_make ok_X14_make cv_X14_make (ct_X14_make_512 (d := 7) (Nat.le_refl _) hr8) rfl rfl (Or.inl rfl) rfl rfl rfl rfl (Nat.le_trans (Nat.le_of_ble_eq_true rfl) hd) (Nat.le_of_ble_eq_true rfl) (Nat.le_of_ble_eq_true rfl) (Nat.le_of_ble_eq_true rfl) (fun x hx => absurd hx List.not_mem_nil) (q_nmL0 _) (q_nmS0 _) rfl (pos' := 31) (st' := [.int (q_bz r8.1)]) (lI' := [(492, r8.2.1), (510, r8.2.2.1), (511, r8.2.2.2.1), (512, r8.2.2.2.2.1), (513, r8.2.2.2.2.2.1), (514, r8.2.2.2.2.2.2.1), (515, r8.2.2.2.2.2.2.2.1), (516, r8.2.2.2.2.2.2.2.2.1), (517, r8.2.2.2.2.2.2.2.2.2.1), (518, r8.2.2.2.2.2.2.2.2.2.2.1), (519, r8.2.2.2.2.2.2.2.2.2.2.2)]) (lE' := []) rfl rfl (q_mgw rfl rfl) rfl ?_
        refine q_blf 0 [] (a := q_kc (t, r, 1, 499, 529, ext, rx, L) I E 42 [some (.ref 492), some (.int x1), some (.int x2), some (.int x3)] [] [(492, r8.2.1), (510, r8.2.2.1), (511, r8.2.2.2.1), (512, r8.2.2.2.2.1), (513, r8.2.2.2.2.2.1), (514, r8.2.2.2.2.2.2.1), (515, r8.2.2.2.2.2.2.2.1), (516, r8.2.2.2.2.2.2.2.2.1), (517, r8.2.2.2.2.2.2.2.2.2.1), (518, r8.2.2.2.2.2.2.2.2.2.2.1), (519, r8.2.2.2.2.2.2.2.2.2.2.2)] []) (b := q_kc (t, r, 1, 499, 529, ext, rx, L) I E 32 [some (.ref 492), some (.int x1), some (.int x2), some (.int x3)] [] [(492, r8.2.1), (510, r8.2.2.1), (511, r8.2.2.2.1), (512, r8.2.2.2.2.1), (513, r8.2.2.2.2.2.1), (514, r8.2.2.2.2.2.2.1), (515, r8.2.2.2.2.2.2.2.1), (516, r8.2.2.2.2.2.2.2.2.1), (517, r8.2.2.2.2.2.2.2.2.2.1), (518, r8.2.2.2.2.2.2.2.2.2.2.1), (519, r8.2.2.2.2.2.2.2.2.2.2.2)] []) (P := (q_bz r8.1) = 0) ok_X15_make rfl q_cn (fun h9 => ?_) (fun h9 => ?_)
        · have hf := q_ip h9 hf
          refine q_blk 2 [] (c' := q_kc (t, r, 1, 499, 529, ext, rx, L) I E 44 [some (.ref 492), some (.int x1), some (.int x2), some (.int x3)] [.int (3 : Int32), .ref 492] [(492, r8.2.1), (510, r8.2.2.1), (511, r8.2.2.2.1), (512, r8.2.2.2.2.1), (513, r8.2.2.2.2.2.1), (514, r8.2.2.2.2.2.2.1), (515, r8.2.2.2.2.2.2.2.1), (516, r8.2.2.2.2.2.2.2.2.1), (517, r8.2.2.2.2.2.2.2.2.2.1), (518, r8.2.2.2.2.2.2.2.2.2.2.1), (519, r8.2.2.2.2.2.2.2.2.2.2.2)] []) ok_X15_make rfl q_cn ?_
          obtain ⟨r10, hr10, hf⟩ := q_bd hf
          refine q_kV (M2 := m_X15_no) (As := [.int (3 : Int32)]) (b := 492) (v2 := some (.int r10.1)) ok_X15_make ok_X15_no cv_X15_no (ct_X15_no_492 (d := 1) (Nat.le_refl _) hr10) rfl rfl (Or.inl rfl) rfl rfl rfl rfl (Nat.le_trans (Nat.le_of_ble_eq_true rfl) hd) (Nat.le_of_ble_eq_true rfl) (Nat.le_of_ble_eq_true rfl) (Nat.le_of_ble_eq_true rfl) (fun x hx => absurd hx List.not_mem_nil) (q_nmL0 _) (q_nmS0 _) rfl (pos' := 45) (st' := [.int r10.1]) (lI' := [(492, r10.2), (510, r8.2.2.1), (511, r8.2.2.2.1), (512, r8.2.2.2.2.1), (513, r8.2.2.2.2.2.1), (514, r8.2.2.2.2.2.2.1), (515, r8.2.2.2.2.2.2.2.1), (516, r8.2.2.2.2.2.2.2.2.1), (517, r8.2.2.2.2.2.2.2.2.2.1), (518, r8.2.2.2.2.2.2.2.2.2.2.1), (519, r8.2.2.2.2.2.2.2.2.2.2.2)]) (lE' := []) rfl rfl (q_mgw rfl rfl) rfl ?_
          cases hf
          exact q_kri ok_X15_make rfl rfl rfl (Nat.le_of_ble_eq_true rfl) (Nat.le_of_ble_eq_true rfl) ⟨rfl, q_hpe (q_pdw [492, 510, 511, 512, 513, 514, 515, 516, 517, 518, 519] rfl rfl) (q_pdw [] rfl rfl)⟩
        · have hf := q_in h9 hf
          obtain ⟨j11, hj11, hf⟩ := q_bd hf
          obtain ⟨j12, hj12, hf⟩ := q_bd hf
          refine q_blk 10 [j11, j12] (c' := q_kc (t, r, 1, 499, 529, ext, rx, L) I E 45 [some (.ref 492), some (.int x1), some (.int x2), some (.int x3)] [.int (r8.2.2.2.2.2.2.2.1 j12)] [(492, r8.2.1), (510, r8.2.2.1), (511, r8.2.2.2.1), (512, r8.2.2.2.2.1), (513, r8.2.2.2.2.2.1), (514, r8.2.2.2.2.2.2.1), (515, r8.2.2.2.2.2.2.2.1), (516, r8.2.2.2.2.2.2.2.2.1), (517, r8.2.2.2.2.2.2.2.2.2.1), (518, r8.2.2.2.2.2.2.2.2.2.2.1), (519, r8.2.2.2.2.2.2.2.2.2.2.2)] []) ok_X15_make rfl (q_cc hj12 (q_cc hj11 q_cn)) ?_
          cases hf
          exact q_kri ok_X15_make rfl rfl rfl (Nat.le_of_ble_eq_true rfl) (Nat.le_of_ble_eq_true rfl) ⟨rfl, q_hpe (q_pdw [492, 510, 511, 512, 513, 514, 515, 516, 517, 518, 519] rfl rfl) (q_pdw [] rfl rfl)⟩
      · have hf := q_in h7 hf
        refine q_blk 2 [] (c' := q_kc (t, r, 1, 499, 529, ext, rx, L) I E 23 [some (.ref 492), some (.int x1), some (.int x2), some (.int x3)] [.int (2 : Int32), .ref 492] [(492, (q_up (I 492) 0 (0 : Int32)))] []) ok_X15_make rfl q_cn ?_
        obtain ⟨r13, hr13, hf⟩ := q_bd hf
        refine q_kV (M2 := m_X15_no) (As := [.int (2 : Int32)]) (b := 492) (v2 := some (.int r13.1)) ok_X15_make ok_X15_no cv_X15_no (ct_X15_no_492 (d := 1) (Nat.le_refl _) hr13) rfl rfl (Or.inl rfl) rfl rfl rfl rfl (Nat.le_trans (Nat.le_of_ble_eq_true rfl) hd) (Nat.le_of_ble_eq_true rfl) (Nat.le_of_ble_eq_true rfl) (Nat.le_of_ble_eq_true rfl) (fun x hx => absurd hx List.not_mem_nil) (q_nmL0 _) (q_nmS0 _) rfl (pos' := 24) (st' := [.int r13.1]) (lI' := [(492, r13.2)]) (lE' := []) rfl rfl (q_mgw rfl rfl) rfl ?_
        cases hf
        exact q_kri ok_X15_make rfl rfl rfl (Nat.le_of_ble_eq_true rfl) (Nat.le_of_ble_eq_true rfl) ⟨rfl, q_hpe (q_pdw [492, 510, 511, 512, 513, 514, 515, 516, 517, 518, 519] rfl rfl) (q_pdw [] rfl rfl)⟩
  · have hf := q_in h2 hf
    refine q_blk 2 [] (c' := q_kc (t, r, 1, 499, 529, ext, rx, L) I E 9 [some (.ref 492), some (.int x1), some (.int x2), some (.int x3)] [.int (1 : Int32), .ref 492] [(492, (q_up (I 492) 0 (0 : Int32)))] []) ok_X15_make rfl q_cn ?_
    obtain ⟨r14, hr14, hf⟩ := q_bd hf
    refine q_kV (M2 := m_X15_no) (As := [.int (1 : Int32)]) (b := 492) (v2 := some (.int r14.1)) ok_X15_make ok_X15_no cv_X15_no (ct_X15_no_492 (d := 1) (Nat.le_refl _) hr14) rfl rfl (Or.inl rfl) rfl rfl rfl rfl (Nat.le_trans (Nat.le_of_ble_eq_true rfl) hd) (Nat.le_of_ble_eq_true rfl) (Nat.le_of_ble_eq_true rfl) (Nat.le_of_ble_eq_true rfl) (fun x hx => absurd hx List.not_mem_nil) (q_nmL0 _) (q_nmS0 _) rfl (pos' := 10) (st' := [.int r14.1]) (lI' := [(492, r14.2)]) (lE' := []) rfl rfl (q_mgw rfl rfl) rfl ?_
    cases hf
    exact q_kri ok_X15_make rfl rfl rfl (Nat.le_of_ble_eq_true rfl) (Nat.le_of_ble_eq_true rfl) ⟨rfl, q_hpe (q_pdw [492, 510, 511, 512, 513, 514, 515, 516, 517, 518, 519] rfl rfl) (q_pdw [] rfl rfl)⟩
set_option maxHeartbeats 4000000 in
theorem ct_X14_tie_512 {g : q_G} {t : Nat} {r : Nat} {m : Nat} {z : Nat} {N : Nat} {ext : Nat → q_Sh} {rx : Nat → Nat → Option Nat} {L : Nat → Nat → Int64} {d : Nat} (hd : 3 ≤ d)  {I : Nat → Nat → Int32} {E : Nat → Nat → Option Nat} {x1 : Int32} {x2 : Int32} {x3 : Int32} {r0 : Bool × (Nat → Int32)} (hf : f_X14_tie (I 513) (I 517) (I 519) x1 x2 x3 = some r0) : q_Ct g m_X14_tie d 0 0 [] [.ref 512, .int x1, .int x2, .int x3] (q_hp (t, r, m, z, N, ext, rx, L) I E) (fun o h' => o = .inl (some (.int (q_bz r0.1))) ∧ h' = q_hp (t, r, m, z, N, ext, rx, L) (q_ws I [(519, r0.2)]) (q_ws E [])) := by
  rw [f_X14_tie] at hf
  refine q_Ct_of ok_X14_tie (Nat.le_of_ble_eq_true rfl) ?_ _ rfl rfl
  change q_J g m_X14_tie d 0 0 _ [] _ 0 0 (q_kc (t, r, m, z, N, ext, rx, L) I E 0 [some (.ref 512), some (.int x1), some (.int x2), some (.int x3)] [] [] [])
  refine q_blk 3 [] (c' := q_kc (t, r, m, z, N, ext, rx, L) I E 3 [some (.ref 512), some (.int x1), some (.int x2), some (.int x3)] [.int x2, .int x1, .ref 512] [] []) ok_X14_tie rfl q_cn ?_
  obtain ⟨r1, hr1, hf⟩ := q_bd hf
  refine q_kV (M2 := m_X14_hasRope) (As := [.int x1, .int x2]) (b := 512) (v2 := some (.int (q_bz r1))) ok_X14_tie ok_X14_hasRope cv_X14_hasRope (ct_X14_hasRope_512 (d := 2) (Nat.le_refl _) hr1) rfl rfl (Or.inl rfl) rfl rfl rfl rfl (Nat.le_trans (Nat.le_of_ble_eq_true rfl) hd) (Nat.le_of_ble_eq_true rfl) (Nat.le_of_ble_eq_true rfl) (Nat.le_of_ble_eq_true rfl) (fun x hx => absurd hx List.not_mem_nil) (q_nmL0 _) (q_nmS0 _) rfl (pos' := 4) (st' := [.int (q_bz r1)]) (lI' := []) (lE' := []) rfl rfl rfl rfl ?_
  refine q_blf 0 [] (a := q_kc (t, r, m, z, N, ext, rx, L) I E 11 [some (.ref 512), some (.int x1), some (.int x2), some (.int x3)] [] [] []) (b := q_kc (t, r, m, z, N, ext, rx, L) I E 5 [some (.ref 512), some (.int x1), some (.int x2), some (.int x3)] [] [] []) (P := (q_bz r1) = 0) ok_X14_tie rfl q_cn (fun h2 => ?_) (fun h2 => ?_)
  · have hf := q_ip h2 hf
    refine q_blk 1 [] (c' := q_kc (t, r, m, z, N, ext, rx, L) I E 12 [some (.ref 512), some (.int x1), some (.int x2), some (.int x3)] [.int (0 : Int32)] [] []) ok_X14_tie rfl q_cn ?_
    cases hf
    exact q_kri ok_X14_tie rfl rfl rfl (Nat.le_of_ble_eq_true rfl) (Nat.le_of_ble_eq_true rfl) ⟨rfl, q_hpe (q_pdw [519] rfl rfl) (q_pdw [] rfl rfl)⟩
  · have hf := q_in h2 hf
    obtain ⟨j3, hj3, hf⟩ := q_bd hf
    refine q_blf 5 [j3] (a := q_kc (t, r, m, z, N, ext, rx, L) I E 13 [some (.ref 512), some (.int x1), some (.int x2), some (.int x3)] [] [] []) (b := q_kc (t, r, m, z, N, ext, rx, L) I E 11 [some (.ref 512), some (.int x1), some (.int x2), some (.int x3)] [] [] []) (P := ¬ ((I 513) j3) = (-1 : Int32)) ok_X14_tie rfl (q_cc hj3 q_cn) (fun h4 => ?_) (fun h4 => ?_)
    · have hf := q_ip h4 hf
      obtain ⟨j5, hj5, hf⟩ := q_bd hf
      obtain ⟨j6, hj6, hf⟩ := q_bd hf
      obtain ⟨j7, hj7, hf⟩ := q_bd hf
      refine q_blk 16 [j5, j6, j7] (c' := q_kc (t, r, m, z, N, ext, rx, L) I E 29 [some (.ref 512), some (.int x1), some (.int x2), some (.int x3)] [.int (1 : Int32)] [(519, (q_up (I 519) j7 ((I 513) j6)))] []) ok_X14_tie rfl (q_cc hj7 (q_cc hj6 (q_cc hj5 q_cn))) ?_
      cases hf
      exact q_kri ok_X14_tie rfl rfl rfl (Nat.le_of_ble_eq_true rfl) (Nat.le_of_ble_eq_true rfl) ⟨rfl, q_hpe (q_pdw [519] rfl rfl) (q_pdw [] rfl rfl)⟩
    · have hf := q_in h4 hf
      refine q_blk 1 [] (c' := q_kc (t, r, m, z, N, ext, rx, L) I E 12 [some (.ref 512), some (.int x1), some (.int x2), some (.int x3)] [.int (0 : Int32)] [] []) ok_X14_tie rfl q_cn ?_
      cases hf
      exact q_kri ok_X14_tie rfl rfl rfl (Nat.le_of_ble_eq_true rfl) (Nat.le_of_ble_eq_true rfl) ⟨rfl, q_hpe (q_pdw [519] rfl rfl) (q_pdw [] rfl rfl)⟩
set_option maxHeartbeats 4000000 in
theorem lp_X15_tie_L30_492 {g : q_G} {d mc ms : Nat} {h0 : q_H} {Q : (Option Value ⊕ String) → q_H → Prop} {k n : Nat} {t : Nat} {r : Nat} {z : Nat} {N : Nat} {ext : Nat → q_Sh} {rx : Nat → Nat → Option Nat} {L : Nat → Nat → Int64} (hd : 4 ≤ d) (hk : k ≤ mc) (hn : n ≤ ms)  {v1 : Int32} : ∀ (fu : Nat) {I : Nat → Nat → Int32} {E : Nat → Nat → Option Nat} {v4 : Int32} {v5 : Int32} {r0 : Int32} (hf : f_X15_tie_L30 (I 513) (I 517) (I 519) v1 fu v4 v5 = some r0) (hK0 : q_J g m_X15_tie d mc ms h0 [] Q k n (q_kc (t, r, 1, z, N, ext, rx, L) I E 56 [none, none, none, none, some (.int r0), none] [] [] [])), q_J g m_X15_tie d mc ms h0 [] Q k n (30, [some (.ref 492), some (.int v1), none, none, some (.int v4), some (.int v5)], [], q_hp (t, r, 1, z, N, ext, rx, L) I E) := by
  intro fu
  induction fu with
  | zero =>
    intro I E v4 v5 r0 hf hK0
    rw [f_X15_tie_L30] at hf
    cases hf
  | succ fu ih =>
    intro I E v4 v5 r0 hf hK0
    rw [f_X15_tie_L30] at hf
    change q_J g m_X15_tie d mc ms h0 [] Q k n (q_kc (t, r, 1, z, N, ext, rx, L) I E 30 [some (.ref 492), some (.int v1), none, none, some (.int v4), some (.int v5)] [] [] [])
    obtain ⟨j1, hj1, hf⟩ := q_bd hf
    obtain ⟨j2, hj2, hf⟩ := q_bd hf
    refine q_blf 10 [j1, j2] (a := q_kc (t, r, 1, z, N, ext, rx, L) I E 56 [some (.ref 492), some (.int v1), none, none, some (.int v4), some (.int v5)] [] [] []) (b := q_kc (t, r, 1, z, N, ext, rx, L) I E 41 [some (.ref 492), some (.int v1), none, none, some (.int v4), some (.int v5)] [] [] []) (P := ((I 517) j2) ≤ v5) ok_X15_tie rfl (q_cc hj2 (q_cc hj1 q_cn)) (fun h3 => ?_) (fun h3 => ?_)
    · have hf := q_ip h3 hf
      refine q_less (ls' := [none, none, none, none, some (.int v4), none]) (q_sb1 (q_sb1 (q_sb1 (q_sb1 (q_sb2 (q_sb1 q_sb0)))))) ?_
      cases hf
      exact q_Jpad (q_pdw [] rfl rfl) (q_pdw [] rfl rfl) hK0
    · have hf := q_in h3 hf
      refine q_blk 5 [] (c' := q_kc (t, r, 1, z, N, ext, rx, L) I E 46 [some (.ref 492), some (.int v1), none, none, some (.int v4), some (.int v5)] [.int v5, .int v1, .ref 512, .int v4] [] []) ok_X15_tie rfl q_cn ?_
      obtain ⟨r4, hr4, hf⟩ := q_bd hf
      refine q_kV (M2 := m_X14_leadsTo) (As := [.int v1, .int v5]) (b := 512) (v2 := some (.int r4)) ok_X15_tie ok_X14_leadsTo cv_X14_leadsTo (ct_X14_leadsTo_512 (d := 1) (Nat.le_refl _) hr4) rfl rfl (Or.inl rfl) rfl rfl rfl rfl (Nat.le_trans (Nat.le_of_ble_eq_true rfl) hd) hk hn (Nat.le_of_ble_eq_true rfl) (fun x hx => absurd hx List.not_mem_nil) (q_nmL0 _) (q_nmS0 _) rfl (pos' := 47) (st' := [.int r4, .int v4]) (lI' := []) (lE' := []) rfl rfl rfl rfl ?_
      refine q_blf 1 [] (a := q_kc (t, r, 1, z, N, ext, rx, L) I E 51 [some (.ref 492), some (.int v1), none, none, some (.int v4), some (.int v5)] [.int v4] [] []) (b := q_kc (t, r, 1, z, N, ext, rx, L) I E 49 [some (.ref 492), some (.int v1), none, none, some (.int v4), some (.int v5)] [.int v4] [] []) (P := ¬ r4 = (-1 : Int32)) ok_X15_tie rfl q_cn (fun h5 => ?_) (fun h5 => ?_)
      · have hf := q_ip h5 hf
        refine q_blk 5 [] (c' := q_kc (t, r, 1, z, N, ext, rx, L) I E 30 [some (.ref 492), some (.int v1), none, none, some (.int (v4 + (1 : Int32))), some (.int (v5 + 1))] [] [] []) ok_X15_tie rfl q_cn ?_
        exact ih (I := q_ws I []) (E := q_ws E []) hf (q_Jmrg (q_mgw rfl rfl) (q_mgw rfl rfl) hK0)
      · have hf := q_in h5 hf
        refine q_blk 6 [] (c' := q_kc (t, r, 1, z, N, ext, rx, L) I E 30 [some (.ref 492), some (.int v1), none, none, some (.int (v4 + (0 : Int32))), some (.int (v5 + 1))] [] [] []) ok_X15_tie rfl q_cn ?_
        exact ih (I := q_ws I []) (E := q_ws E []) hf (q_Jmrg (q_mgw rfl rfl) (q_mgw rfl rfl) hK0)
set_option maxHeartbeats 4000000 in
theorem ct_X15_tie_492 {g : q_G} {t : Nat} {r : Nat} {z : Nat} {N : Nat} {ext : Nat → q_Sh} {rx : Nat → Nat → Option Nat} {L : Nat → Nat → Int64} {d : Nat} (hd : 4 ≤ d)  {I : Nat → Nat → Int32} {E : Nat → Nat → Option Nat} {x1 : Int32} {x2 : Int32} {x3 : Int32} {r0 : Int32 × (Nat → Int32) × (Nat → Int32)} (hf : f_X15_tie (I 492) (I 499) (I 513) (I 517) (I 519) x1 x2 x3 = some r0) : q_Ct g m_X15_tie d 0 0 [] [.ref 492, .int x1, .int x2, .int x3] (q_hp (t, r, 1, z, N, ext, rx, L) I E) (fun o h' => o = .inl (some (.int r0.1)) ∧ h' = q_hp (t, r, 1, z, N, ext, rx, L) (q_ws I [(492, r0.2.1), (519, r0.2.2)]) (q_ws E [])) := by
  rw [f_X15_tie] at hf
  refine q_Ct_of ok_X15_tie (Nat.le_of_ble_eq_true rfl) ?_ _ rfl rfl
  change q_J g m_X15_tie d 0 0 _ [] _ 0 0 (q_kc (t, r, 1, z, N, ext, rx, L) I E 0 [some (.ref 492), some (.int x1), some (.int x2), some (.int x3), none, none] [] [] [])
  refine q_blk 5 [] (c' := q_kc (t, r, 1, z, N, ext, rx, L) I E 5 [some (.ref 492), some (.int x1), some (.int x2), some (.int x3), none, none] [.int x1, .ref 492] [(492, (q_up (I 492) 0 (0 : Int32)))] []) ok_X15_tie rfl q_cn ?_
  obtain ⟨r6, hr6, hf⟩ := q_bd hf
  refine q_kV (M2 := m_X15_isHook) (As := [.int x1]) (b := 492) (v2 := some (.int (q_bz r6))) ok_X15_tie ok_X15_isHook cv_X15_isHook (ct_X15_isHook_492 (d := 2) (Nat.le_refl _) hr6) rfl rfl (Or.inl rfl) rfl rfl rfl rfl (Nat.le_trans (Nat.le_of_ble_eq_true rfl) hd) (Nat.le_of_ble_eq_true rfl) (Nat.le_of_ble_eq_true rfl) (Nat.le_of_ble_eq_true rfl) (fun x hx => absurd hx List.not_mem_nil) (q_nmL0 _) (q_nmS0 _) rfl (pos' := 6) (st' := [.int (q_bz r6)]) (lI' := [(492, (q_up (I 492) 0 (0 : Int32)))]) (lE' := []) rfl rfl rfl rfl ?_
  refine q_blf 0 [] (a := q_kc (t, r, 1, z, N, ext, rx, L) I E 11 [some (.ref 492), some (.int x1), some (.int x2), some (.int x3), none, none] [] [(492, (q_up (I 492) 0 (0 : Int32)))] []) (b := q_kc (t, r, 1, z, N, ext, rx, L) I E 7 [some (.ref 492), some (.int x1), some (.int x2), some (.int x3), none, none] [] [(492, (q_up (I 492) 0 (0 : Int32)))] []) (P := (q_bz r6) = 0) ok_X15_tie rfl q_cn (fun h7 => ?_) (fun h7 => ?_)
  · have hf := q_ip h7 hf
    refine q_blk 2 [] (c' := q_kc (t, r, 1, z, N, ext, rx, L) I E 13 [some (.ref 492), some (.int x1), some (.int x2), some (.int x3), none, none] [.int (1 : Int32), .ref 492] [(492, (q_up (I 492) 0 (0 : Int32)))] []) ok_X15_tie rfl q_cn ?_
    obtain ⟨r8, hr8, hf⟩ := q_bd hf
    refine q_kV (M2 := m_X15_no) (As := [.int (1 : Int32)]) (b := 492) (v2 := some (.int r8.1)) ok_X15_tie ok_X15_no cv_X15_no (ct_X15_no_492 (d := 1) (Nat.le_refl _) hr8) rfl rfl (Or.inl rfl) rfl rfl rfl rfl (Nat.le_trans (Nat.le_of_ble_eq_true rfl) hd) (Nat.le_of_ble_eq_true rfl) (Nat.le_of_ble_eq_true rfl) (Nat.le_of_ble_eq_true rfl) (fun x hx => absurd hx List.not_mem_nil) (q_nmL0 _) (q_nmS0 _) rfl (pos' := 14) (st' := [.int r8.1]) (lI' := [(492, r8.2)]) (lE' := []) rfl rfl (q_mgw rfl rfl) rfl ?_
    cases hf
    exact q_kri ok_X15_tie rfl rfl rfl (Nat.le_of_ble_eq_true rfl) (Nat.le_of_ble_eq_true rfl) ⟨rfl, q_hpe (q_pdw [492, 519] rfl rfl) (q_pdw [] rfl rfl)⟩
  · have hf := q_in h7 hf
    refine q_blk 2 [] (c' := q_kc (t, r, 1, z, N, ext, rx, L) I E 9 [some (.ref 492), some (.int x1), some (.int x2), some (.int x3), none, none] [.int x3, .ref 492] [(492, (q_up (I 492) 0 (0 : Int32)))] []) ok_X15_tie rfl q_cn ?_
    obtain ⟨r9, hr9, hf⟩ := q_bd hf
    refine q_kV (M2 := m_X15_isHook) (As := [.int x3]) (b := 492) (v2 := some (.int (q_bz r9))) ok_X15_tie ok_X15_isHook cv_X15_isHook (ct_X15_isHook_492 (d := 2) (Nat.le_refl _) hr9) rfl rfl (Or.inl rfl) rfl rfl rfl rfl (Nat.le_trans (Nat.le_of_ble_eq_true rfl) hd) (Nat.le_of_ble_eq_true rfl) (Nat.le_of_ble_eq_true rfl) (Nat.le_of_ble_eq_true rfl) (fun x hx => absurd hx List.not_mem_nil) (q_nmL0 _) (q_nmS0 _) rfl (pos' := 10) (st' := [.int (q_bz r9)]) (lI' := [(492, (q_up (I 492) 0 (0 : Int32)))]) (lE' := []) rfl rfl rfl rfl ?_
    refine q_blf 0 [] (a := q_kc (t, r, 1, z, N, ext, rx, L) I E 15 [some (.ref 492), some (.int x1), some (.int x2), some (.int x3), none, none] [] [(492, (q_up (I 492) 0 (0 : Int32)))] []) (b := q_kc (t, r, 1, z, N, ext, rx, L) I E 11 [some (.ref 492), some (.int x1), some (.int x2), some (.int x3), none, none] [] [(492, (q_up (I 492) 0 (0 : Int32)))] []) (P := ¬ (q_bz r9) = 0) ok_X15_tie rfl q_cn (fun h10 => ?_) (fun h10 => ?_)
    · have hf := q_ip h10 hf
      refine q_blk 5 [] (c' := q_kc (t, r, 1, z, N, ext, rx, L) I E 20 [some (.ref 492), some (.int x1), some (.int x2), some (.int x3), none, none] [.int x3, .int x2, .int x1, .ref 512] [(492, (q_up (I 492) 0 (0 : Int32)))] []) ok_X15_tie rfl q_cn ?_
      obtain ⟨r11, hr11, hf⟩ := q_bd hf
      refine q_kV (M2 := m_X14_tie) (As := [.int x1, .int x2, .int x3]) (b := 512) (v2 := some (.int (q_bz r11.1))) ok_X15_tie ok_X14_tie cv_X14_tie (ct_X14_tie_512 (d := 3) (Nat.le_refl _) hr11) rfl rfl (Or.inl rfl) rfl rfl rfl rfl (Nat.le_trans (Nat.le_of_ble_eq_true rfl) hd) (Nat.le_of_ble_eq_true rfl) (Nat.le_of_ble_eq_true rfl) (Nat.le_of_ble_eq_true rfl) (fun x hx => absurd hx List.not_mem_nil) (q_nmL0 _) (q_nmS0 _) rfl (pos' := 21) (st' := [.int (q_bz r11.1)]) (lI' := [(492, (q_up (I 492) 0 (0 : Int32))), (519, r11.2)]) (lE' := []) rfl rfl (q_mgw rfl rfl) rfl ?_
      refine q_blf 0 [] (a := q_kc (t, r, 1, z, N, ext, rx, L) I E 26 [some (.ref 492), some (.int x1), some (.int x2), some (.int x3), none, none] [] [(492, (q_up (I 492) 0 (0 : Int32))), (519, r11.2)] []) (b := q_kc (t, r, 1, z, N, ext, rx, L) I E 22 [some (.ref 492), some (.int x1), some (.int x2), some (.int x3), none, none] [] [(492, (q_up (I 492) 0 (0 : Int32))), (519, r11.2)] []) (P := ¬ (q_bz r11.1) = 0) ok_X15_tie rfl q_cn (fun h12 => ?_) (fun h12 => ?_)
      · have hf := q_ip h12 hf
        refine q_blk 4 [] (c' := q_kc (t, r, 1, z, N, ext, rx, L) I E 30 [some (.ref 492), some (.int x1), some (.int x2), some (.int x3), some (.int (0 : Int32)), some (.int (0 : Int32))] [] [(492, (q_up (I 492) 0 (0 : Int32))), (519, r11.2)] []) ok_X15_tie rfl q_cn ?_
        refine q_less (ls' := [some (.ref 492), some (.int x1), none, none, some (.int (0 : Int32)), some (.int (0 : Int32))]) (q_sb2 (q_sb2 (q_sb1 (q_sb1 (q_sb2 (q_sb2 q_sb0)))))) ?_
        obtain ⟨r13, hr13, hf⟩ := q_bd hf
        refine lp_X15_tie_L30_492 (I := q_ws I [(492, (q_up (I 492) 0 (0 : Int32))), (519, r11.2)]) (E := q_ws E []) hd (Nat.le_of_ble_eq_true rfl) (Nat.le_of_ble_eq_true rfl) 4096 hr13 ?_
        refine q_Jmrg (lI' := [(492, (q_up (I 492) 0 (0 : Int32))), (519, r11.2)]) (lE' := []) (q_mgw rfl rfl) (q_mgw rfl rfl) ?_
        refine q_blk 1 [] (c' := q_kc (t, r, 1, z, N, ext, rx, L) I E 57 [none, none, none, none, some (.int r13), none] [.int r13] [(492, (q_up (I 492) 0 (0 : Int32))), (519, r11.2)] []) ok_X15_tie rfl q_cn ?_
        cases hf
        exact q_kri ok_X15_tie rfl rfl rfl (Nat.le_of_ble_eq_true rfl) (Nat.le_of_ble_eq_true rfl) ⟨rfl, q_hpe (q_pdw [492, 519] rfl rfl) (q_pdw [] rfl rfl)⟩
      · have hf := q_in h12 hf
        refine q_blk 2 [] (c' := q_kc (t, r, 1, z, N, ext, rx, L) I E 24 [some (.ref 492), some (.int x1), some (.int x2), some (.int x3), none, none] [.int (2 : Int32), .ref 492] [(492, (q_up (I 492) 0 (0 : Int32))), (519, r11.2)] []) ok_X15_tie rfl q_cn ?_
        obtain ⟨r14, hr14, hf⟩ := q_bd hf
        refine q_kV (M2 := m_X15_no) (As := [.int (2 : Int32)]) (b := 492) (v2 := some (.int r14.1)) ok_X15_tie ok_X15_no cv_X15_no (ct_X15_no_492 (d := 1) (Nat.le_refl _) hr14) rfl rfl (Or.inl rfl) rfl rfl rfl rfl (Nat.le_trans (Nat.le_of_ble_eq_true rfl) hd) (Nat.le_of_ble_eq_true rfl) (Nat.le_of_ble_eq_true rfl) (Nat.le_of_ble_eq_true rfl) (fun x hx => absurd hx List.not_mem_nil) (q_nmL0 _) (q_nmS0 _) rfl (pos' := 25) (st' := [.int r14.1]) (lI' := [(492, r14.2), (519, r11.2)]) (lE' := []) rfl rfl (q_mgw rfl rfl) rfl ?_
        cases hf
        exact q_kri ok_X15_tie rfl rfl rfl (Nat.le_of_ble_eq_true rfl) (Nat.le_of_ble_eq_true rfl) ⟨rfl, q_hpe (q_pdw [492, 519] rfl rfl) (q_pdw [] rfl rfl)⟩
    · have hf := q_in h10 hf
      refine q_blk 2 [] (c' := q_kc (t, r, 1, z, N, ext, rx, L) I E 13 [some (.ref 492), some (.int x1), some (.int x2), some (.int x3), none, none] [.int (1 : Int32), .ref 492] [(492, (q_up (I 492) 0 (0 : Int32)))] []) ok_X15_tie rfl q_cn ?_
      obtain ⟨r15, hr15, hf⟩ := q_bd hf
      refine q_kV (M2 := m_X15_no) (As := [.int (1 : Int32)]) (b := 492) (v2 := some (.int r15.1)) ok_X15_tie ok_X15_no cv_X15_no (ct_X15_no_492 (d := 1) (Nat.le_refl _) hr15) rfl rfl (Or.inl rfl) rfl rfl rfl rfl (Nat.le_trans (Nat.le_of_ble_eq_true rfl) hd) (Nat.le_of_ble_eq_true rfl) (Nat.le_of_ble_eq_true rfl) (Nat.le_of_ble_eq_true rfl) (fun x hx => absurd hx List.not_mem_nil) (q_nmL0 _) (q_nmS0 _) rfl (pos' := 14) (st' := [.int r15.1]) (lI' := [(492, r15.2)]) (lE' := []) rfl rfl (q_mgw rfl rfl) rfl ?_
      cases hf
      exact q_kri ok_X15_tie rfl rfl rfl (Nat.le_of_ble_eq_true rfl) (Nat.le_of_ble_eq_true rfl) ⟨rfl, q_hpe (q_pdw [492, 519] rfl rfl) (q_pdw [] rfl rfl)⟩
set_option maxHeartbeats 4000000 in
theorem ct_X14_follow_512 {g : q_G} {t : Nat} {r : Nat} {m : Nat} {z : Nat} {N : Nat} {ext : Nat → q_Sh} {rx : Nat → Nat → Option Nat} {L : Nat → Nat → Int64} {d : Nat} (hd : 3 ≤ d)  {I : Nat → Nat → Int32} {E : Nat → Nat → Option Nat} {x1 : Int32} {x2 : Int32} {x3 : Int32} {r0 : Bool × (Nat → Int32)} (hf : f_X14_follow (I 513) (I 517) (I 519) x1 x2 x3 = some r0) : q_Ct g m_X14_follow d 0 0 [] [.ref 512, .int x1, .int x2, .int x3] (q_hp (t, r, m, z, N, ext, rx, L) I E) (fun o h' => o = .inl (some (.int (q_bz r0.1))) ∧ h' = q_hp (t, r, m, z, N, ext, rx, L) (q_ws I [(513, r0.2)]) (q_ws E [])) := by
  rw [f_X14_follow] at hf
  refine q_Ct_of ok_X14_follow (Nat.le_of_ble_eq_true rfl) ?_ _ rfl rfl
  change q_J g m_X14_follow d 0 0 _ [] _ 0 0 (q_kc (t, r, m, z, N, ext, rx, L) I E 0 [some (.ref 512), some (.int x1), some (.int x2), some (.int x3)] [] [] [])
  refine q_blk 3 [] (c' := q_kc (t, r, m, z, N, ext, rx, L) I E 3 [some (.ref 512), some (.int x1), some (.int x2), some (.int x3)] [.int x3, .int x2, .ref 512] [] []) ok_X14_follow rfl q_cn ?_
  obtain ⟨r1, hr1, hf⟩ := q_bd hf
  refine q_kV (M2 := m_X14_hasRope) (As := [.int x2, .int x3]) (b := 512) (v2 := some (.int (q_bz r1))) ok_X14_follow ok_X14_hasRope cv_X14_hasRope (ct_X14_hasRope_512 (d := 2) (Nat.le_refl _) hr1) rfl rfl (Or.inl rfl) rfl rfl rfl rfl (Nat.le_trans (Nat.le_of_ble_eq_true rfl) hd) (Nat.le_of_ble_eq_true rfl) (Nat.le_of_ble_eq_true rfl) (Nat.le_of_ble_eq_true rfl) (fun x hx => absurd hx List.not_mem_nil) (q_nmL0 _) (q_nmS0 _) rfl (pos' := 4) (st' := [.int (q_bz r1)]) (lI' := []) (lE' := []) rfl rfl rfl rfl ?_
  refine q_blf 0 [] (a := q_kc (t, r, m, z, N, ext, rx, L) I E 11 [some (.ref 512), some (.int x1), some (.int x2), some (.int x3)] [] [] []) (b := q_kc (t, r, m, z, N, ext, rx, L) I E 5 [some (.ref 512), some (.int x1), some (.int x2), some (.int x3)] [] [] []) (P := (q_bz r1) = 0) ok_X14_follow rfl q_cn (fun h2 => ?_) (fun h2 => ?_)
  · have hf := q_ip h2 hf
    refine q_blk 1 [] (c' := q_kc (t, r, m, z, N, ext, rx, L) I E 12 [some (.ref 512), some (.int x1), some (.int x2), some (.int x3)] [.int (0 : Int32)] [] []) ok_X14_follow rfl q_cn ?_
    cases hf
    exact q_kri ok_X14_follow rfl rfl rfl (Nat.le_of_ble_eq_true rfl) (Nat.le_of_ble_eq_true rfl) ⟨rfl, q_hpe (q_pdw [513] rfl rfl) (q_pdw [] rfl rfl)⟩
  · have hf := q_in h2 hf
    refine q_blk 3 [] (c' := q_kc (t, r, m, z, N, ext, rx, L) I E 8 [some (.ref 512), some (.int x1), some (.int x2), some (.int x3)] [.int x3, .int x2, .ref 512] [] []) ok_X14_follow rfl q_cn ?_
    obtain ⟨r3, hr3, hf⟩ := q_bd hf
    refine q_kV (M2 := m_X14_leadsTo) (As := [.int x2, .int x3]) (b := 512) (v2 := some (.int r3)) ok_X14_follow ok_X14_leadsTo cv_X14_leadsTo (ct_X14_leadsTo_512 (d := 1) (Nat.le_refl _) hr3) rfl rfl (Or.inl rfl) rfl rfl rfl rfl (Nat.le_trans (Nat.le_of_ble_eq_true rfl) hd) (Nat.le_of_ble_eq_true rfl) (Nat.le_of_ble_eq_true rfl) (Nat.le_of_ble_eq_true rfl) (fun x hx => absurd hx List.not_mem_nil) (q_nmL0 _) (q_nmS0 _) rfl (pos' := 9) (st' := [.int r3]) (lI' := []) (lE' := []) rfl rfl rfl rfl ?_
    refine q_blf 1 [] (a := q_kc (t, r, m, z, N, ext, rx, L) I E 13 [some (.ref 512), some (.int x1), some (.int x2), some (.int x3)] [] [] []) (b := q_kc (t, r, m, z, N, ext, rx, L) I E 11 [some (.ref 512), some (.int x1), some (.int x2), some (.int x3)] [] [] []) (P := ¬ r3 = (-1 : Int32)) ok_X14_follow rfl q_cn (fun h4 => ?_) (fun h4 => ?_)
    · have hf := q_ip h4 hf
      refine q_blk 6 [] (c' := q_kc (t, r, m, z, N, ext, rx, L) I E 19 [some (.ref 512), some (.int x1), some (.int x2), some (.int x3)] [.int x3, .int x2, .ref 512, .int x1, .ref 513] [] []) ok_X14_follow rfl q_cn ?_
      obtain ⟨r5, hr5, hf⟩ := q_bd hf
      refine q_kV (M2 := m_X14_leadsTo) (As := [.int x2, .int x3]) (b := 512) (v2 := some (.int r5)) ok_X14_follow ok_X14_leadsTo cv_X14_leadsTo (ct_X14_leadsTo_512 (d := 1) (Nat.le_refl _) hr5) rfl rfl (Or.inl rfl) rfl rfl rfl rfl (Nat.le_trans (Nat.le_of_ble_eq_true rfl) hd) (Nat.le_of_ble_eq_true rfl) (Nat.le_of_ble_eq_true rfl) (Nat.le_of_ble_eq_true rfl) (fun x hx => absurd hx List.not_mem_nil) (q_nmL0 _) (q_nmS0 _) rfl (pos' := 20) (st' := [.int r5, .int x1, .ref 513]) (lI' := []) (lE' := []) rfl rfl rfl rfl ?_
      obtain ⟨j6, hj6, hf⟩ := q_bd hf
      refine q_blk 2 [j6] (c' := q_kc (t, r, m, z, N, ext, rx, L) I E 22 [some (.ref 512), some (.int x1), some (.int x2), some (.int x3)] [.int (1 : Int32)] [(513, (q_up (I 513) j6 r5))] []) ok_X14_follow rfl (q_cc hj6 q_cn) ?_
      cases hf
      exact q_kri ok_X14_follow rfl rfl rfl (Nat.le_of_ble_eq_true rfl) (Nat.le_of_ble_eq_true rfl) ⟨rfl, q_hpe (q_pdw [513] rfl rfl) (q_pdw [] rfl rfl)⟩
    · have hf := q_in h4 hf
      refine q_blk 1 [] (c' := q_kc (t, r, m, z, N, ext, rx, L) I E 12 [some (.ref 512), some (.int x1), some (.int x2), some (.int x3)] [.int (0 : Int32)] [] []) ok_X14_follow rfl q_cn ?_
      cases hf
      exact q_kri ok_X14_follow rfl rfl rfl (Nat.le_of_ble_eq_true rfl) (Nat.le_of_ble_eq_true rfl) ⟨rfl, q_hpe (q_pdw [513] rfl rfl) (q_pdw [] rfl rfl)⟩
set_option maxHeartbeats 4000000 in
theorem ct_X15_follow_492 {g : q_G} {t : Nat} {r : Nat} {z : Nat} {N : Nat} {ext : Nat → q_Sh} {rx : Nat → Nat → Option Nat} {L : Nat → Nat → Int64} {d : Nat} (hd : 4 ≤ d)  {I : Nat → Nat → Int32} {E : Nat → Nat → Option Nat} {x1 : Int32} {x2 : Int32} {x3 : Int32} {r0 : Int32 × (Nat → Int32) × (Nat → Int32)} (hf : f_X15_follow (I 492) (I 499) (I 513) (I 515) (I 517) (I 519) x1 x2 x3 = some r0) : q_Ct g m_X15_follow d 0 0 [] [.ref 492, .int x1, .int x2, .int x3] (q_hp (t, r, 1, z, N, ext, rx, L) I E) (fun o h' => o = .inl (some (.int r0.1)) ∧ h' = q_hp (t, r, 1, z, N, ext, rx, L) (q_ws I [(492, r0.2.1), (513, r0.2.2)]) (q_ws E [])) := by
  rw [f_X15_follow] at hf
  refine q_Ct_of ok_X15_follow (Nat.le_of_ble_eq_true rfl) ?_ _ rfl rfl
  change q_J g m_X15_follow d 0 0 _ [] _ 0 0 (q_kc (t, r, 1, z, N, ext, rx, L) I E 0 [some (.ref 492), some (.int x1), some (.int x2), some (.int x3)] [] [] [])
  refine q_blk 5 [] (c' := q_kc (t, r, 1, z, N, ext, rx, L) I E 5 [some (.ref 492), some (.int x1), some (.int x2), some (.int x3)] [.int x1, .ref 492] [(492, (q_up (I 492) 0 (0 : Int32)))] []) ok_X15_follow rfl q_cn ?_
  obtain ⟨r1, hr1, hf⟩ := q_bd hf
  refine q_kV (M2 := m_X15_isHook) (As := [.int x1]) (b := 492) (v2 := some (.int (q_bz r1))) ok_X15_follow ok_X15_isHook cv_X15_isHook (ct_X15_isHook_492 (d := 2) (Nat.le_refl _) hr1) rfl rfl (Or.inl rfl) rfl rfl rfl rfl (Nat.le_trans (Nat.le_of_ble_eq_true rfl) hd) (Nat.le_of_ble_eq_true rfl) (Nat.le_of_ble_eq_true rfl) (Nat.le_of_ble_eq_true rfl) (fun x hx => absurd hx List.not_mem_nil) (q_nmL0 _) (q_nmS0 _) rfl (pos' := 6) (st' := [.int (q_bz r1)]) (lI' := [(492, (q_up (I 492) 0 (0 : Int32)))]) (lE' := []) rfl rfl rfl rfl ?_
  refine q_blf 0 [] (a := q_kc (t, r, 1, z, N, ext, rx, L) I E 11 [some (.ref 492), some (.int x1), some (.int x2), some (.int x3)] [] [(492, (q_up (I 492) 0 (0 : Int32)))] []) (b := q_kc (t, r, 1, z, N, ext, rx, L) I E 7 [some (.ref 492), some (.int x1), some (.int x2), some (.int x3)] [] [(492, (q_up (I 492) 0 (0 : Int32)))] []) (P := (q_bz r1) = 0) ok_X15_follow rfl q_cn (fun h2 => ?_) (fun h2 => ?_)
  · have hf := q_ip h2 hf
    refine q_blk 2 [] (c' := q_kc (t, r, 1, z, N, ext, rx, L) I E 13 [some (.ref 492), some (.int x1), some (.int x2), some (.int x3)] [.int (1 : Int32), .ref 492] [(492, (q_up (I 492) 0 (0 : Int32)))] []) ok_X15_follow rfl q_cn ?_
    obtain ⟨r3, hr3, hf⟩ := q_bd hf
    refine q_kV (M2 := m_X15_no) (As := [.int (1 : Int32)]) (b := 492) (v2 := some (.int r3.1)) ok_X15_follow ok_X15_no cv_X15_no (ct_X15_no_492 (d := 1) (Nat.le_refl _) hr3) rfl rfl (Or.inl rfl) rfl rfl rfl rfl (Nat.le_trans (Nat.le_of_ble_eq_true rfl) hd) (Nat.le_of_ble_eq_true rfl) (Nat.le_of_ble_eq_true rfl) (Nat.le_of_ble_eq_true rfl) (fun x hx => absurd hx List.not_mem_nil) (q_nmL0 _) (q_nmS0 _) rfl (pos' := 14) (st' := [.int r3.1]) (lI' := [(492, r3.2)]) (lE' := []) rfl rfl (q_mgw rfl rfl) rfl ?_
    cases hf
    exact q_kri ok_X15_follow rfl rfl rfl (Nat.le_of_ble_eq_true rfl) (Nat.le_of_ble_eq_true rfl) ⟨rfl, q_hpe (q_pdw [492, 513] rfl rfl) (q_pdw [] rfl rfl)⟩
  · have hf := q_in h2 hf
    refine q_blk 2 [] (c' := q_kc (t, r, 1, z, N, ext, rx, L) I E 9 [some (.ref 492), some (.int x1), some (.int x2), some (.int x3)] [.int x2, .ref 492] [(492, (q_up (I 492) 0 (0 : Int32)))] []) ok_X15_follow rfl q_cn ?_
    obtain ⟨r4, hr4, hf⟩ := q_bd hf
    refine q_kV (M2 := m_X15_isHook) (As := [.int x2]) (b := 492) (v2 := some (.int (q_bz r4))) ok_X15_follow ok_X15_isHook cv_X15_isHook (ct_X15_isHook_492 (d := 2) (Nat.le_refl _) hr4) rfl rfl (Or.inl rfl) rfl rfl rfl rfl (Nat.le_trans (Nat.le_of_ble_eq_true rfl) hd) (Nat.le_of_ble_eq_true rfl) (Nat.le_of_ble_eq_true rfl) (Nat.le_of_ble_eq_true rfl) (fun x hx => absurd hx List.not_mem_nil) (q_nmL0 _) (q_nmS0 _) rfl (pos' := 10) (st' := [.int (q_bz r4)]) (lI' := [(492, (q_up (I 492) 0 (0 : Int32)))]) (lE' := []) rfl rfl rfl rfl ?_
    refine q_blf 0 [] (a := q_kc (t, r, 1, z, N, ext, rx, L) I E 15 [some (.ref 492), some (.int x1), some (.int x2), some (.int x3)] [] [(492, (q_up (I 492) 0 (0 : Int32)))] []) (b := q_kc (t, r, 1, z, N, ext, rx, L) I E 11 [some (.ref 492), some (.int x1), some (.int x2), some (.int x3)] [] [(492, (q_up (I 492) 0 (0 : Int32)))] []) (P := ¬ (q_bz r4) = 0) ok_X15_follow rfl q_cn (fun h5 => ?_) (fun h5 => ?_)
    · have hf := q_ip h5 hf
      refine q_blk 5 [] (c' := q_kc (t, r, 1, z, N, ext, rx, L) I E 20 [some (.ref 492), some (.int x1), some (.int x2), some (.int x3)] [.int x3, .int x2, .int x1, .ref 512] [(492, (q_up (I 492) 0 (0 : Int32)))] []) ok_X15_follow rfl q_cn ?_
      obtain ⟨r6, hr6, hf⟩ := q_bd hf
      refine q_kV (M2 := m_X14_follow) (As := [.int x1, .int x2, .int x3]) (b := 512) (v2 := some (.int (q_bz r6.1))) ok_X15_follow ok_X14_follow cv_X14_follow (ct_X14_follow_512 (d := 3) (Nat.le_refl _) hr6) rfl rfl (Or.inl rfl) rfl rfl rfl rfl (Nat.le_trans (Nat.le_of_ble_eq_true rfl) hd) (Nat.le_of_ble_eq_true rfl) (Nat.le_of_ble_eq_true rfl) (Nat.le_of_ble_eq_true rfl) (fun x hx => absurd hx List.not_mem_nil) (q_nmL0 _) (q_nmS0 _) rfl (pos' := 21) (st' := [.int (q_bz r6.1)]) (lI' := [(492, (q_up (I 492) 0 (0 : Int32))), (513, r6.2)]) (lE' := []) rfl rfl (q_mgw rfl rfl) rfl ?_
      refine q_blf 0 [] (a := q_kc (t, r, 1, z, N, ext, rx, L) I E 32 [some (.ref 492), some (.int x1), some (.int x2), some (.int x3)] [] [(492, (q_up (I 492) 0 (0 : Int32))), (513, r6.2)] []) (b := q_kc (t, r, 1, z, N, ext, rx, L) I E 22 [some (.ref 492), some (.int x1), some (.int x2), some (.int x3)] [] [(492, (q_up (I 492) 0 (0 : Int32))), (513, r6.2)] []) (P := (q_bz r6.1) = 0) ok_X15_follow rfl q_cn (fun h7 => ?_) (fun h7 => ?_)
      · have hf := q_ip h7 hf
        refine q_blk 2 [] (c' := q_kc (t, r, 1, z, N, ext, rx, L) I E 34 [some (.ref 492), some (.int x1), some (.int x2), some (.int x3)] [.int (2 : Int32), .ref 492] [(492, (q_up (I 492) 0 (0 : Int32))), (513, r6.2)] []) ok_X15_follow rfl q_cn ?_
        obtain ⟨r8, hr8, hf⟩ := q_bd hf
        refine q_kV (M2 := m_X15_no) (As := [.int (2 : Int32)]) (b := 492) (v2 := some (.int r8.1)) ok_X15_follow ok_X15_no cv_X15_no (ct_X15_no_492 (d := 1) (Nat.le_refl _) hr8) rfl rfl (Or.inl rfl) rfl rfl rfl rfl (Nat.le_trans (Nat.le_of_ble_eq_true rfl) hd) (Nat.le_of_ble_eq_true rfl) (Nat.le_of_ble_eq_true rfl) (Nat.le_of_ble_eq_true rfl) (fun x hx => absurd hx List.not_mem_nil) (q_nmL0 _) (q_nmS0 _) rfl (pos' := 35) (st' := [.int r8.1]) (lI' := [(492, r8.2), (513, r6.2)]) (lE' := []) rfl rfl (q_mgw rfl rfl) rfl ?_
        cases hf
        exact q_kri ok_X15_follow rfl rfl rfl (Nat.le_of_ble_eq_true rfl) (Nat.le_of_ble_eq_true rfl) ⟨rfl, q_hpe (q_pdw [492, 513] rfl rfl) (q_pdw [] rfl rfl)⟩
      · have hf := q_in h7 hf
        obtain ⟨j9, hj9, hf⟩ := q_bd hf
        obtain ⟨j10, hj10, hf⟩ := q_bd hf
        refine q_blk 10 [j9, j10] (c' := q_kc (t, r, 1, z, N, ext, rx, L) I E 35 [some (.ref 492), some (.int x1), some (.int x2), some (.int x3)] [.int ((I 515) j10)] [(492, (q_up (I 492) 0 (0 : Int32))), (513, r6.2)] []) ok_X15_follow rfl (q_cc hj10 (q_cc hj9 q_cn)) ?_
        cases hf
        exact q_kri ok_X15_follow rfl rfl rfl (Nat.le_of_ble_eq_true rfl) (Nat.le_of_ble_eq_true rfl) ⟨rfl, q_hpe (q_pdw [492, 513] rfl rfl) (q_pdw [] rfl rfl)⟩
    · have hf := q_in h5 hf
      refine q_blk 2 [] (c' := q_kc (t, r, 1, z, N, ext, rx, L) I E 13 [some (.ref 492), some (.int x1), some (.int x2), some (.int x3)] [.int (1 : Int32), .ref 492] [(492, (q_up (I 492) 0 (0 : Int32)))] []) ok_X15_follow rfl q_cn ?_
      obtain ⟨r11, hr11, hf⟩ := q_bd hf
      refine q_kV (M2 := m_X15_no) (As := [.int (1 : Int32)]) (b := 492) (v2 := some (.int r11.1)) ok_X15_follow ok_X15_no cv_X15_no (ct_X15_no_492 (d := 1) (Nat.le_refl _) hr11) rfl rfl (Or.inl rfl) rfl rfl rfl rfl (Nat.le_trans (Nat.le_of_ble_eq_true rfl) hd) (Nat.le_of_ble_eq_true rfl) (Nat.le_of_ble_eq_true rfl) (Nat.le_of_ble_eq_true rfl) (fun x hx => absurd hx List.not_mem_nil) (q_nmL0 _) (q_nmS0 _) rfl (pos' := 14) (st' := [.int r11.1]) (lI' := [(492, r11.2)]) (lE' := []) rfl rfl (q_mgw rfl rfl) rfl ?_
      cases hf
      exact q_kri ok_X15_follow rfl rfl rfl (Nat.le_of_ble_eq_true rfl) (Nat.le_of_ble_eq_true rfl) ⟨rfl, q_hpe (q_pdw [492, 513] rfl rfl) (q_pdw [] rfl rfl)⟩
