set_option maxHeartbeats 4000000 in
theorem lp_X14_make_L29_520 {g : q_G} {d mc ms : Nat} {h0 : q_H} {Q : (Option Value ⊕ String) → q_H → Prop} {k n : Nat} {t : Nat} {r : Nat} {m : Nat} {z : Nat} {N : Nat} {ext : Nat → q_Sh} {rx : Nat → Nat → Option Nat} {L : Nat → Nat → Int64} (hd : 7 ≤ d) (hk : k ≤ mc) (hn : n ≤ ms)  {v1 : Int32} {v2 : Int32} {v3 : Int32} {v4 : Int32} : ∀ (fu : Nat) {I : Nat → Nat → Int32} {E : Nat → Nat → Option Nat} {v5 : Int32} {r0 : Int32} (hf : f_X14_make_L29 (I 522) fu v5 = some r0) (hK0 : q_J g m_X14_make d mc ms h0 [] Q k n (q_kc (t, r, m, z, N, ext, rx, L) I E 36 [some (.ref 520), some (.int v1), some (.int v2), some (.int v3), some (.int v4), some (.int r0), none] [] [] [])), q_J g m_X14_make d mc ms h0 [] Q k n (29, [some (.ref 520), some (.int v1), some (.int v2), some (.int v3), some (.int v4), some (.int v5), none], [], q_hp (t, r, m, z, N, ext, rx, L) I E) := by
  intro fu
  induction fu with
  | zero =>
    intro I E v5 r0 hf hK0
    rw [f_X14_make_L29] at hf
    cases hf
  | succ fu ih =>
    intro I E v5 r0 hf hK0
    rw [f_X14_make_L29] at hf
    change q_J g m_X14_make d mc ms h0 [] Q k n (q_kc (t, r, m, z, N, ext, rx, L) I E 29 [some (.ref 520), some (.int v1), some (.int v2), some (.int v3), some (.int v4), some (.int v5), none] [] [] [])
    obtain ⟨j1, hj1, hf⟩ := q_bd hf
    refine q_blf 4 [j1] (a := q_kc (t, r, m, z, N, ext, rx, L) I E 36 [some (.ref 520), some (.int v1), some (.int v2), some (.int v3), some (.int v4), some (.int v5), none] [] [] []) (b := q_kc (t, r, m, z, N, ext, rx, L) I E 34 [some (.ref 520), some (.int v1), some (.int v2), some (.int v3), some (.int v4), some (.int v5), none] [] [] []) (P := ((I 522) j1) = 0) ok_X14_make rfl (q_cc hj1 q_cn) (fun h2 => ?_) (fun h2 => ?_)
    · have hf := q_ip h2 hf
      cases hf
      exact q_Jpad (q_pdw [] rfl rfl) (q_pdw [] rfl rfl) hK0
    · have hf := q_in h2 hf
      refine q_blk 2 [] (c' := q_kc (t, r, m, z, N, ext, rx, L) I E 29 [some (.ref 520), some (.int v1), some (.int v2), some (.int v3), some (.int v4), some (.int (v5 + 1)), none] [] [] []) ok_X14_make rfl q_cn ?_
      exact ih (I := q_ws I []) (E := q_ws E []) hf (q_Jmrg (q_mgw rfl rfl) (q_mgw rfl rfl) hK0)
set_option maxHeartbeats 4000000 in
theorem lp_X14_make_L63_520 {g : q_G} {d mc ms : Nat} {h0 : q_H} {Q : (Option Value ⊕ String) → q_H → Prop} {k n : Nat} {t : Nat} {r : Nat} {m : Nat} {z : Nat} {N : Nat} {ext : Nat → q_Sh} {rx : Nat → Nat → Option Nat} {L : Nat → Nat → Int64} (hd : 7 ≤ d) (hk : k ≤ mc) (hn : n ≤ ms)  {v1 : Int32} {v5 : Int32} : ∀ (fu : Nat) {I : Nat → Nat → Int32} {E : Nat → Nat → Option Nat} {v6 : Int32} {r0 : (Nat → Int32)} (hf : f_X14_make_L63 v5 fu (I 527) v6 = some r0) (hK0 : q_J g m_X14_make d mc ms h0 [] Q k n (q_kc (t, r, m, z, N, ext, rx, L) I E 77 [some (.ref 520), some (.int v1), none, none, none, some (.int v5), none] [] [(527, r0)] [])), q_J g m_X14_make d mc ms h0 [] Q k n (63, [some (.ref 520), some (.int v1), none, none, none, some (.int v5), some (.int v6)], [], q_hp (t, r, m, z, N, ext, rx, L) I E) := by
  intro fu
  induction fu with
  | zero =>
    intro I E v6 r0 hf hK0
    rw [f_X14_make_L63] at hf
    cases hf
  | succ fu ih =>
    intro I E v6 r0 hf hK0
    rw [f_X14_make_L63] at hf
    change q_J g m_X14_make d mc ms h0 [] Q k n (q_kc (t, r, m, z, N, ext, rx, L) I E 63 [some (.ref 520), some (.int v1), none, none, none, some (.int v5), some (.int v6)] [] [] [])
    refine q_blf 2 [] (a := q_kc (t, r, m, z, N, ext, rx, L) I E 77 [some (.ref 520), some (.int v1), none, none, none, some (.int v5), some (.int v6)] [] [] []) (b := q_kc (t, r, m, z, N, ext, rx, L) I E 66 [some (.ref 520), some (.int v1), none, none, none, some (.int v5), some (.int v6)] [] [] []) (P := (3 : Int32) ≤ v6) ok_X14_make rfl q_cn (fun h3 => ?_) (fun h3 => ?_)
    · have hf := q_ip h3 hf
      refine q_less (ls' := [some (.ref 520), some (.int v1), none, none, none, some (.int v5), none]) (q_sb2 (q_sb2 (q_sb1 (q_sb1 (q_sb1 (q_sb2 (q_sb1 q_sb0))))))) ?_
      cases hf
      exact q_Jpad (q_pdw [527] rfl rfl) (q_pdw [] rfl rfl) hK0
    · have hf := q_in h3 hf
      obtain ⟨j4, hj4, hf⟩ := q_bd hf
      refine q_blk 11 [j4] (c' := q_kc (t, r, m, z, N, ext, rx, L) I E 63 [some (.ref 520), some (.int v1), none, none, none, some (.int v5), some (.int (v6 + 1))] [] [(527, (q_up (I 527) j4 (-1 : Int32)))] []) ok_X14_make rfl (q_cc hj4 q_cn) ?_
      exact ih (I := q_ws I [(527, (q_up (I 527) j4 (-1 : Int32)))]) (E := q_ws E []) hf (q_Jmrg (q_mgw rfl rfl) (q_mgw rfl rfl) hK0)
set_option maxHeartbeats 4000000 in
theorem ct_X14_make_520 {g : q_G} {t : Nat} {r : Nat} {ext : Nat → q_Sh} {rx : Nat → Nat → Option Nat} {L : Nat → Nat → Int64} {d : Nat} (hd : 7 ≤ d)  {I : Nat → Nat → Int32} {E : Nat → Nat → Option Nat} {x1 : Int32} {x2 : Int32} {x3 : Int32} {r0 : Bool × (Nat → Int32) × (Nat → Int32) × (Nat → Int32) × (Nat → Int32) × (Nat → Int32) × (Nat → Int32) × (Nat → Int32) × (Nat → Int32) × (Nat → Int32) × (Nat → Int32) × (Nat → Int32)} (hf : f_X14_make (I 492) (I 499) (I 510) (I 511) (I 520) (I 521) (I 522) (I 523) (I 524) (I 525) (I 526) (I 527) x1 x2 x3 = some r0) : q_Ct g m_X14_make d 1 136 [] [.ref 520, .int x1, .int x2, .int x3] (q_hp (t, r, 1, 499, 529, ext, rx, L) I E) (fun o h' => o = .inl (some (.int (q_bz r0.1))) ∧ h' = q_hp (t, r, 1, 499, 529, ext, rx, L) (q_ws I [(492, r0.2.1), (510, r0.2.2.1), (511, r0.2.2.2.1), (520, r0.2.2.2.2.1), (521, r0.2.2.2.2.2.1), (522, r0.2.2.2.2.2.2.1), (523, r0.2.2.2.2.2.2.2.1), (524, r0.2.2.2.2.2.2.2.2.1), (525, r0.2.2.2.2.2.2.2.2.2.1), (526, r0.2.2.2.2.2.2.2.2.2.2.1), (527, r0.2.2.2.2.2.2.2.2.2.2.2)]) (q_ws E [])) := by
  rw [f_X14_make] at hf
  refine q_Ct_of ok_X14_make (Nat.le_of_ble_eq_true rfl) ?_ _ rfl rfl
  change q_J g m_X14_make d 1 136 _ [] _ 0 0 (q_kc (t, r, 1, 499, 529, ext, rx, L) I E 0 [some (.ref 520), some (.int x1), some (.int x2), some (.int x3), none, none, none] [] [] [])
  refine q_blk 6 [] (c' := q_kc (t, r, 1, 499, 529, ext, rx, L) I E 6 [some (.ref 520), some (.int x1), some (.int x2), some (.int x3), none, none, none] [.int (1 : Int32), .ref 520, .int ((I 499) 1)] [] []) ok_X14_make rfl q_cn ?_
  obtain ⟨r5, hr5, hf⟩ := q_bd hf
  refine q_kV (M2 := m_X14_used) (As := [.int (1 : Int32)]) (b := 520) (v2 := some (.int r5)) ok_X14_make ok_X14_used cv_X14_used (ct_X14_used_520 (d := 1) (Nat.le_refl _) hr5) rfl rfl (Or.inl rfl) rfl rfl rfl rfl (Nat.le_trans (Nat.le_of_ble_eq_true rfl) hd) (Nat.le_of_ble_eq_true rfl) (Nat.le_of_ble_eq_true rfl) (Nat.le_of_ble_eq_true rfl) (fun x hx => absurd hx List.not_mem_nil) (q_nmL0 _) (q_nmS0 _) rfl (pos' := 7) (st' := [.int r5, .int ((I 499) 1)]) (lI' := []) (lE' := []) rfl rfl rfl rfl ?_
  refine q_blf 2 [] (a := q_kc (t, r, 1, 499, 529, ext, rx, L) I E 13 [some (.ref 520), some (.int x1), some (.int x2), some (.int x3), none, none, none] [] [] []) (b := q_kc (t, r, 1, 499, 529, ext, rx, L) I E 10 [some (.ref 520), some (.int x1), some (.int x2), some (.int x3), none, none, none] [] [] []) (P := x2 ≤ (((I 499) 1) - r5)) ok_X14_make rfl q_cn (fun h6 => ?_) (fun h6 => ?_)
  · have hf := q_ip h6 hf
    refine q_blk 2 [] (c' := q_kc (t, r, 1, 499, 529, ext, rx, L) I E 15 [some (.ref 520), some (.int x1), some (.int x2), some (.int x3), none, none, none] [.int (1 : Int32), .ref 520] [] []) ok_X14_make rfl q_cn ?_
    obtain ⟨r7, hr7, hf⟩ := q_bd hf
    refine q_kV (M2 := m_X14_used) (As := [.int (1 : Int32)]) (b := 520) (v2 := some (.int r7)) ok_X14_make ok_X14_used cv_X14_used (ct_X14_used_520 (d := 1) (Nat.le_refl _) hr7) rfl rfl (Or.inl rfl) rfl rfl rfl rfl (Nat.le_trans (Nat.le_of_ble_eq_true rfl) hd) (Nat.le_of_ble_eq_true rfl) (Nat.le_of_ble_eq_true rfl) (Nat.le_of_ble_eq_true rfl) (fun x hx => absurd hx List.not_mem_nil) (q_nmL0 _) (q_nmS0 _) rfl (pos' := 16) (st' := [.int r7]) (lI' := []) (lE' := []) rfl rfl rfl rfl ?_
    refine q_blf 8 [] (a := q_kc (t, r, 1, 499, 529, ext, rx, L) I E 27 [some (.ref 520), some (.int x1), some (.int x2), some (.int x3), some (.int r7), none, none] [] [] []) (b := q_kc (t, r, 1, 499, 529, ext, rx, L) I E 25 [some (.ref 520), some (.int x1), some (.int x2), some (.int x3), some (.int r7), none, none] [] [] []) (P := x2 ≤ (((I 499) 1) - r7)) ok_X14_make rfl q_cn (fun h8 => ?_) (fun h8 => ?_)
    · have hf := q_ip h8 hf
      refine q_blk 2 [] (c' := q_kc (t, r, 1, 499, 529, ext, rx, L) I E 29 [some (.ref 520), some (.int x1), some (.int x2), some (.int x3), some (.int r7), some (.int (0 : Int32)), none] [] [] []) ok_X14_make rfl q_cn ?_
      obtain ⟨r9, hr9, hf⟩ := q_bd hf
      refine lp_X14_make_L29_520 (I := q_ws I []) (E := q_ws E []) hd (Nat.le_of_ble_eq_true rfl) (Nat.le_of_ble_eq_true rfl) 4096 hr9 ?_
      refine q_Jmrg (lI' := []) (lE' := []) (q_mgw rfl rfl) (q_mgw rfl rfl) ?_
      obtain ⟨j10, hj10, hf⟩ := q_bd hf
      obtain ⟨j11, hj11, hf⟩ := q_bd hf
      obtain ⟨j12, hj12, hf⟩ := q_bd hf
      obtain ⟨j13, hj13, hf⟩ := q_bd hf
      obtain ⟨j14, hj14, hf⟩ := q_bd hf
      refine q_blk 27 [j10, j11, j12, j13, j14] (c' := q_kc (t, r, 1, 499, 529, ext, rx, L) I E 63 [some (.ref 520), some (.int x1), some (.int x2), some (.int x3), some (.int r7), some (.int r9), some (.int (0 : Int32))] [] [(522, (q_up (I 522) j10 (1 : Int32))), (523, (q_up (I 523) j11 r7)), (524, (q_up (I 524) j12 x2)), (525, (q_up (I 525) j13 x3)), (526, (q_up (I 526) j14 (0 : Int32)))] []) ok_X14_make rfl (q_cc hj14 (q_cc hj13 (q_cc hj12 (q_cc hj11 (q_cc hj10 q_cn))))) ?_
      refine q_less (ls' := [some (.ref 520), some (.int x1), none, none, none, some (.int r9), some (.int (0 : Int32))]) (q_sb2 (q_sb2 (q_sb1 (q_sb1 (q_sb1 (q_sb2 (q_sb2 q_sb0))))))) ?_
      obtain ⟨r15, hr15, hf⟩ := q_bd hf
      refine lp_X14_make_L63_520 (I := q_ws I [(522, (q_up (I 522) j10 (1 : Int32))), (523, (q_up (I 523) j11 r7)), (524, (q_up (I 524) j12 x2)), (525, (q_up (I 525) j13 x3)), (526, (q_up (I 526) j14 (0 : Int32)))]) (E := q_ws E []) hd (Nat.le_of_ble_eq_true rfl) (Nat.le_of_ble_eq_true rfl) 4096 hr15 ?_
      refine q_Jmrg (lI' := [(522, (q_up (I 522) j10 (1 : Int32))), (523, (q_up (I 523) j11 r7)), (524, (q_up (I 524) j12 x2)), (525, (q_up (I 525) j13 x3)), (526, (q_up (I 526) j14 (0 : Int32))), (527, r15)]) (lE' := []) (q_mgw rfl rfl) (q_mgw rfl rfl) ?_
      obtain ⟨j16, hj16, hf⟩ := q_bd hf
      refine q_blk 6 [j16] (c' := q_kc (t, r, 1, 499, 529, ext, rx, L) I E 83 [some (.ref 520), some (.int x1), none, none, none, some (.int r9), none] [.int (1 : Int32)] [(521, (q_up (I 521) j16 r9)), (522, (q_up (I 522) j10 (1 : Int32))), (523, (q_up (I 523) j11 r7)), (524, (q_up (I 524) j12 x2)), (525, (q_up (I 525) j13 x3)), (526, (q_up (I 526) j14 (0 : Int32))), (527, r15)] []) ok_X14_make rfl (q_cc hj16 q_cn) ?_
      cases hf
      exact q_kri ok_X14_make rfl rfl rfl (Nat.le_of_ble_eq_true rfl) (Nat.le_of_ble_eq_true rfl) ⟨rfl, q_hpe (q_pdw [492, 510, 511, 520, 521, 522, 523, 524, 525, 526, 527] rfl rfl) (q_pdw [] rfl rfl)⟩
    · have hf := q_in h8 hf
      refine q_blk 1 [] (c' := q_kc (t, r, 1, 499, 529, ext, rx, L) I E 26 [some (.ref 520), some (.int x1), some (.int x2), some (.int x3), some (.int r7), none, none] [.int (0 : Int32)] [] []) ok_X14_make rfl q_cn ?_
      cases hf
      exact q_kri ok_X14_make rfl rfl rfl (Nat.le_of_ble_eq_true rfl) (Nat.le_of_ble_eq_true rfl) ⟨rfl, q_hpe (q_pdw [492, 510, 511, 520, 521, 522, 523, 524, 525, 526, 527] rfl rfl) (q_pdw [] rfl rfl)⟩
  · have hf := q_in h6 hf
    refine q_blk 1 [] (c' := q_kc (t, r, 1, 499, 529, ext, rx, L) I E 11 [some (.ref 520), some (.int x1), some (.int x2), some (.int x3), none, none, none] [.ref 520] [] []) ok_X14_make rfl q_cn ?_
    obtain ⟨r17, hr17, hf⟩ := q_bd hf
    refine q_kV (M2 := m_X14_copyAll) (As := []) (b := 520) (v2 := some (.int r17.1)) ok_X14_make ok_X14_copyAll cv_X14_copyAll (ct_X14_copyAll_520 (d := 6) (Nat.le_refl _) hr17) rfl rfl (Or.inl rfl) rfl rfl rfl rfl (Nat.le_trans (Nat.le_of_ble_eq_true rfl) hd) (Nat.le_of_ble_eq_true rfl) (Nat.le_of_ble_eq_true rfl) (Nat.le_of_ble_eq_true rfl) (fun x hx => absurd hx List.not_mem_nil) (q_nmL0 _) (q_nmS0 _) rfl (pos' := 12) (st' := [.int r17.1]) (lI' := [(492, r17.2.1), (510, r17.2.2.1), (511, r17.2.2.2.1), (520, r17.2.2.2.2.1), (522, r17.2.2.2.2.2.1), (523, r17.2.2.2.2.2.2.1), (526, r17.2.2.2.2.2.2.2)]) (lE' := []) rfl rfl (q_mgw rfl rfl) rfl ?_
    refine q_blk 3 [] (c' := q_kc (t, r, 1, 499, 529, ext, rx, L) I E 15 [some (.ref 520), some (.int x1), some (.int x2), some (.int x3), none, none, none] [.int (1 : Int32), .ref 520] [(492, r17.2.1), (510, r17.2.2.1), (511, r17.2.2.2.1), (520, r17.2.2.2.2.1), (522, r17.2.2.2.2.2.1), (523, r17.2.2.2.2.2.2.1), (526, r17.2.2.2.2.2.2.2)] []) ok_X14_make rfl q_cn ?_
    obtain ⟨r18, hr18, hf⟩ := q_bd hf
    refine q_kV (M2 := m_X14_used) (As := [.int (1 : Int32)]) (b := 520) (v2 := some (.int r18)) ok_X14_make ok_X14_used cv_X14_used (ct_X14_used_520 (d := 1) (Nat.le_refl _) hr18) rfl rfl (Or.inl rfl) rfl rfl rfl rfl (Nat.le_trans (Nat.le_of_ble_eq_true rfl) hd) (Nat.le_of_ble_eq_true rfl) (Nat.le_of_ble_eq_true rfl) (Nat.le_of_ble_eq_true rfl) (fun x hx => absurd hx List.not_mem_nil) (q_nmL0 _) (q_nmS0 _) rfl (pos' := 16) (st' := [.int r18]) (lI' := [(492, r17.2.1), (510, r17.2.2.1), (511, r17.2.2.2.1), (520, r17.2.2.2.2.1), (522, r17.2.2.2.2.2.1), (523, r17.2.2.2.2.2.2.1), (526, r17.2.2.2.2.2.2.2)]) (lE' := []) rfl rfl rfl rfl ?_
    refine q_blf 8 [] (a := q_kc (t, r, 1, 499, 529, ext, rx, L) I E 27 [some (.ref 520), some (.int x1), some (.int x2), some (.int x3), some (.int r18), none, none] [] [(492, r17.2.1), (510, r17.2.2.1), (511, r17.2.2.2.1), (520, r17.2.2.2.2.1), (522, r17.2.2.2.2.2.1), (523, r17.2.2.2.2.2.2.1), (526, r17.2.2.2.2.2.2.2)] []) (b := q_kc (t, r, 1, 499, 529, ext, rx, L) I E 25 [some (.ref 520), some (.int x1), some (.int x2), some (.int x3), some (.int r18), none, none] [] [(492, r17.2.1), (510, r17.2.2.1), (511, r17.2.2.2.1), (520, r17.2.2.2.2.1), (522, r17.2.2.2.2.2.1), (523, r17.2.2.2.2.2.2.1), (526, r17.2.2.2.2.2.2.2)] []) (P := x2 ≤ (((I 499) 1) - r18)) ok_X14_make rfl q_cn (fun h19 => ?_) (fun h19 => ?_)
    · have hf := q_ip h19 hf
      refine q_blk 2 [] (c' := q_kc (t, r, 1, 499, 529, ext, rx, L) I E 29 [some (.ref 520), some (.int x1), some (.int x2), some (.int x3), some (.int r18), some (.int (0 : Int32)), none] [] [(492, r17.2.1), (510, r17.2.2.1), (511, r17.2.2.2.1), (520, r17.2.2.2.2.1), (522, r17.2.2.2.2.2.1), (523, r17.2.2.2.2.2.2.1), (526, r17.2.2.2.2.2.2.2)] []) ok_X14_make rfl q_cn ?_
      obtain ⟨r20, hr20, hf⟩ := q_bd hf
      refine lp_X14_make_L29_520 (I := q_ws I [(492, r17.2.1), (510, r17.2.2.1), (511, r17.2.2.2.1), (520, r17.2.2.2.2.1), (522, r17.2.2.2.2.2.1), (523, r17.2.2.2.2.2.2.1), (526, r17.2.2.2.2.2.2.2)]) (E := q_ws E []) hd (Nat.le_of_ble_eq_true rfl) (Nat.le_of_ble_eq_true rfl) 4096 hr20 ?_
      refine q_Jmrg (lI' := [(492, r17.2.1), (510, r17.2.2.1), (511, r17.2.2.2.1), (520, r17.2.2.2.2.1), (522, r17.2.2.2.2.2.1), (523, r17.2.2.2.2.2.2.1), (526, r17.2.2.2.2.2.2.2)]) (lE' := []) (q_mgw rfl rfl) (q_mgw rfl rfl) ?_
      obtain ⟨j21, hj21, hf⟩ := q_bd hf
      obtain ⟨j22, hj22, hf⟩ := q_bd hf
      obtain ⟨j23, hj23, hf⟩ := q_bd hf
      obtain ⟨j24, hj24, hf⟩ := q_bd hf
      obtain ⟨j25, hj25, hf⟩ := q_bd hf
      refine q_blk 27 [j21, j22, j23, j24, j25] (c' := q_kc (t, r, 1, 499, 529, ext, rx, L) I E 63 [some (.ref 520), some (.int x1), some (.int x2), some (.int x3), some (.int r18), some (.int r20), some (.int (0 : Int32))] [] [(492, r17.2.1), (510, r17.2.2.1), (511, r17.2.2.2.1), (520, r17.2.2.2.2.1), (522, (q_up r17.2.2.2.2.2.1 j21 (1 : Int32))), (523, (q_up r17.2.2.2.2.2.2.1 j22 r18)), (524, (q_up (I 524) j23 x2)), (525, (q_up (I 525) j24 x3)), (526, (q_up r17.2.2.2.2.2.2.2 j25 (0 : Int32)))] []) ok_X14_make rfl (q_cc hj25 (q_cc hj24 (q_cc hj23 (q_cc hj22 (q_cc hj21 q_cn))))) ?_
      refine q_less (ls' := [some (.ref 520), some (.int x1), none, none, none, some (.int r20), some (.int (0 : Int32))]) (q_sb2 (q_sb2 (q_sb1 (q_sb1 (q_sb1 (q_sb2 (q_sb2 q_sb0))))))) ?_
      obtain ⟨r26, hr26, hf⟩ := q_bd hf
      refine lp_X14_make_L63_520 (I := q_ws I [(492, r17.2.1), (510, r17.2.2.1), (511, r17.2.2.2.1), (520, r17.2.2.2.2.1), (522, (q_up r17.2.2.2.2.2.1 j21 (1 : Int32))), (523, (q_up r17.2.2.2.2.2.2.1 j22 r18)), (524, (q_up (I 524) j23 x2)), (525, (q_up (I 525) j24 x3)), (526, (q_up r17.2.2.2.2.2.2.2 j25 (0 : Int32)))]) (E := q_ws E []) hd (Nat.le_of_ble_eq_true rfl) (Nat.le_of_ble_eq_true rfl) 4096 hr26 ?_
      refine q_Jmrg (lI' := [(492, r17.2.1), (510, r17.2.2.1), (511, r17.2.2.2.1), (520, r17.2.2.2.2.1), (522, (q_up r17.2.2.2.2.2.1 j21 (1 : Int32))), (523, (q_up r17.2.2.2.2.2.2.1 j22 r18)), (524, (q_up (I 524) j23 x2)), (525, (q_up (I 525) j24 x3)), (526, (q_up r17.2.2.2.2.2.2.2 j25 (0 : Int32))), (527, r26)]) (lE' := []) (q_mgw rfl rfl) (q_mgw rfl rfl) ?_
      obtain ⟨j27, hj27, hf⟩ := q_bd hf
      refine q_blk 6 [j27] (c' := q_kc (t, r, 1, 499, 529, ext, rx, L) I E 83 [some (.ref 520), some (.int x1), none, none, none, some (.int r20), none] [.int (1 : Int32)] [(492, r17.2.1), (510, r17.2.2.1), (511, r17.2.2.2.1), (520, r17.2.2.2.2.1), (521, (q_up (I 521) j27 r20)), (522, (q_up r17.2.2.2.2.2.1 j21 (1 : Int32))), (523, (q_up r17.2.2.2.2.2.2.1 j22 r18)), (524, (q_up (I 524) j23 x2)), (525, (q_up (I 525) j24 x3)), (526, (q_up r17.2.2.2.2.2.2.2 j25 (0 : Int32))), (527, r26)] []) ok_X14_make rfl (q_cc hj27 q_cn) ?_
      cases hf
      exact q_kri ok_X14_make rfl rfl rfl (Nat.le_of_ble_eq_true rfl) (Nat.le_of_ble_eq_true rfl) ⟨rfl, q_hpe (q_pdw [492, 510, 511, 520, 521, 522, 523, 524, 525, 526, 527] rfl rfl) (q_pdw [] rfl rfl)⟩
    · have hf := q_in h19 hf
      refine q_blk 1 [] (c' := q_kc (t, r, 1, 499, 529, ext, rx, L) I E 26 [some (.ref 520), some (.int x1), some (.int x2), some (.int x3), some (.int r18), none, none] [.int (0 : Int32)] [(492, r17.2.1), (510, r17.2.2.1), (511, r17.2.2.2.1), (520, r17.2.2.2.2.1), (522, r17.2.2.2.2.2.1), (523, r17.2.2.2.2.2.2.1), (526, r17.2.2.2.2.2.2.2)] []) ok_X14_make rfl q_cn ?_
      cases hf
      exact q_kri ok_X14_make rfl rfl rfl (Nat.le_of_ble_eq_true rfl) (Nat.le_of_ble_eq_true rfl) ⟨rfl, q_hpe (q_pdw [492, 510, 511, 520, 521, 522, 523, 524, 525, 526, 527] rfl rfl) (q_pdw [] rfl rfl)⟩
set_option maxHeartbeats 4000000 in
theorem ct_X14_hasRope_520 {g : q_G} {t : Nat} {r : Nat} {m : Nat} {z : Nat} {N : Nat} {ext : Nat → q_Sh} {rx : Nat → Nat → Option Nat} {L : Nat → Nat → Int64} {d : Nat} (hd : 2 ≤ d)  {I : Nat → Nat → Int32} {E : Nat → Nat → Option Nat} {x1 : Int32} {x2 : Int32} {r0 : Bool} (hf : f_X14_hasRope (I 521) (I 525) x1 x2 = some r0) : q_Ct g m_X14_hasRope d 0 0 [] [.ref 520, .int x1, .int x2] (q_hp (t, r, m, z, N, ext, rx, L) I E) (fun o h' => o = .inl (some (.int (q_bz r0))) ∧ h' = q_hp (t, r, m, z, N, ext, rx, L) (q_ws I []) (q_ws E [])) := by
  rw [f_X14_hasRope] at hf
  refine q_Ct_of ok_X14_hasRope (Nat.le_of_ble_eq_true rfl) ?_ _ rfl rfl
  change q_J g m_X14_hasRope d 0 0 _ [] _ 0 0 (q_kc (t, r, m, z, N, ext, rx, L) I E 0 [some (.ref 520), some (.int x1), some (.int x2)] [] [] [])
  obtain ⟨j1, hj1, hf⟩ := q_bd hf
  refine q_blf 5 [j1] (a := q_kc (t, r, m, z, N, ext, rx, L) I E 21 [some (.ref 520), some (.int x1), some (.int x2)] [] [] []) (b := q_kc (t, r, m, z, N, ext, rx, L) I E 6 [some (.ref 520), some (.int x1), some (.int x2)] [] [] []) (P := ((I 521) j1) = (-1 : Int32)) ok_X14_hasRope rfl (q_cc hj1 q_cn) (fun h2 => ?_) (fun h2 => ?_)
  · have hf := q_ip h2 hf
    refine q_blk 1 [] (c' := q_kc (t, r, m, z, N, ext, rx, L) I E 22 [some (.ref 520), some (.int x1), some (.int x2)] [.int (0 : Int32)] [] []) ok_X14_hasRope rfl q_cn ?_
    cases hf
    exact q_kri ok_X14_hasRope rfl rfl rfl (Nat.le_of_ble_eq_true rfl) (Nat.le_of_ble_eq_true rfl) ⟨rfl, q_hpe (q_pdw [] rfl rfl) (q_pdw [] rfl rfl)⟩
  · have hf := q_in h2 hf
    obtain ⟨j3, hj3, hf⟩ := q_bd hf
    obtain ⟨j4, hj4, hf⟩ := q_bd hf
    refine q_blk 11 [j3, j4] (c' := q_kc (t, r, m, z, N, ext, rx, L) I E 17 [some (.ref 520), some (.int x1), some (.int x2)] [.int (((I 525) j4) - (1 : Int32)), .int (0 : Int32), .int x2] [] []) ok_X14_hasRope rfl (q_cc hj4 (q_cc hj3 q_cn)) ?_
    obtain ⟨r5, hr5, hf⟩ := q_bd hf
    refine q_kS (M2 := m_X15_isIn) (As := [.int x2, .int (0 : Int32), .int (((I 525) j4) - (1 : Int32))]) (v2 := some (.int (q_bz r5))) ok_X14_hasRope ok_X15_isIn cs_X15_isIn (ct_X15_isIn (d := 1) (Nat.le_refl _) hr5) rfl rfl (Or.inr ⟨_, rfl⟩) (Nat.le_trans (Nat.le_of_ble_eq_true rfl) hd) (Nat.le_of_ble_eq_true rfl) (Nat.le_of_ble_eq_true rfl) (Nat.le_of_ble_eq_true rfl) (fun x hx => absurd hx List.not_mem_nil) (q_nmL0 _) (q_nmS0 _) rfl (pos' := 18) (st' := [.int (q_bz r5)]) (lI' := []) (lE' := []) rfl rfl rfl rfl ?_
    refine q_blf 0 [] (a := q_kc (t, r, m, z, N, ext, rx, L) I E 21 [some (.ref 520), some (.int x1), some (.int x2)] [] [] []) (b := q_kc (t, r, m, z, N, ext, rx, L) I E 19 [some (.ref 520), some (.int x1), some (.int x2)] [] [] []) (P := (q_bz r5) = 0) ok_X14_hasRope rfl q_cn (fun h6 => ?_) (fun h6 => ?_)
    · have hf := q_ip h6 hf
      refine q_blk 1 [] (c' := q_kc (t, r, m, z, N, ext, rx, L) I E 22 [some (.ref 520), some (.int x1), some (.int x2)] [.int (0 : Int32)] [] []) ok_X14_hasRope rfl q_cn ?_
      cases hf
      exact q_kri ok_X14_hasRope rfl rfl rfl (Nat.le_of_ble_eq_true rfl) (Nat.le_of_ble_eq_true rfl) ⟨rfl, q_hpe (q_pdw [] rfl rfl) (q_pdw [] rfl rfl)⟩
    · have hf := q_in h6 hf
      refine q_blk 2 [] (c' := q_kc (t, r, m, z, N, ext, rx, L) I E 22 [some (.ref 520), some (.int x1), some (.int x2)] [.int (1 : Int32)] [] []) ok_X14_hasRope rfl q_cn ?_
      cases hf
      exact q_kri ok_X14_hasRope rfl rfl rfl (Nat.le_of_ble_eq_true rfl) (Nat.le_of_ble_eq_true rfl) ⟨rfl, q_hpe (q_pdw [] rfl rfl) (q_pdw [] rfl rfl)⟩
set_option maxHeartbeats 4000000 in
theorem ct_X14_tie_520 {g : q_G} {t : Nat} {r : Nat} {m : Nat} {z : Nat} {N : Nat} {ext : Nat → q_Sh} {rx : Nat → Nat → Option Nat} {L : Nat → Nat → Int64} {d : Nat} (hd : 3 ≤ d)  {I : Nat → Nat → Int32} {E : Nat → Nat → Option Nat} {x1 : Int32} {x2 : Int32} {x3 : Int32} {r0 : Bool × (Nat → Int32)} (hf : f_X14_tie (I 521) (I 525) (I 527) x1 x2 x3 = some r0) : q_Ct g m_X14_tie d 0 0 [] [.ref 520, .int x1, .int x2, .int x3] (q_hp (t, r, m, z, N, ext, rx, L) I E) (fun o h' => o = .inl (some (.int (q_bz r0.1))) ∧ h' = q_hp (t, r, m, z, N, ext, rx, L) (q_ws I [(527, r0.2)]) (q_ws E [])) := by
  rw [f_X14_tie] at hf
  refine q_Ct_of ok_X14_tie (Nat.le_of_ble_eq_true rfl) ?_ _ rfl rfl
  change q_J g m_X14_tie d 0 0 _ [] _ 0 0 (q_kc (t, r, m, z, N, ext, rx, L) I E 0 [some (.ref 520), some (.int x1), some (.int x2), some (.int x3)] [] [] [])
  refine q_blk 3 [] (c' := q_kc (t, r, m, z, N, ext, rx, L) I E 3 [some (.ref 520), some (.int x1), some (.int x2), some (.int x3)] [.int x2, .int x1, .ref 520] [] []) ok_X14_tie rfl q_cn ?_
  obtain ⟨r1, hr1, hf⟩ := q_bd hf
  refine q_kV (M2 := m_X14_hasRope) (As := [.int x1, .int x2]) (b := 520) (v2 := some (.int (q_bz r1))) ok_X14_tie ok_X14_hasRope cv_X14_hasRope (ct_X14_hasRope_520 (d := 2) (Nat.le_refl _) hr1) rfl rfl (Or.inl rfl) rfl rfl rfl rfl (Nat.le_trans (Nat.le_of_ble_eq_true rfl) hd) (Nat.le_of_ble_eq_true rfl) (Nat.le_of_ble_eq_true rfl) (Nat.le_of_ble_eq_true rfl) (fun x hx => absurd hx List.not_mem_nil) (q_nmL0 _) (q_nmS0 _) rfl (pos' := 4) (st' := [.int (q_bz r1)]) (lI' := []) (lE' := []) rfl rfl rfl rfl ?_
  refine q_blf 0 [] (a := q_kc (t, r, m, z, N, ext, rx, L) I E 11 [some (.ref 520), some (.int x1), some (.int x2), some (.int x3)] [] [] []) (b := q_kc (t, r, m, z, N, ext, rx, L) I E 5 [some (.ref 520), some (.int x1), some (.int x2), some (.int x3)] [] [] []) (P := (q_bz r1) = 0) ok_X14_tie rfl q_cn (fun h2 => ?_) (fun h2 => ?_)
  · have hf := q_ip h2 hf
    refine q_blk 1 [] (c' := q_kc (t, r, m, z, N, ext, rx, L) I E 12 [some (.ref 520), some (.int x1), some (.int x2), some (.int x3)] [.int (0 : Int32)] [] []) ok_X14_tie rfl q_cn ?_
    cases hf
    exact q_kri ok_X14_tie rfl rfl rfl (Nat.le_of_ble_eq_true rfl) (Nat.le_of_ble_eq_true rfl) ⟨rfl, q_hpe (q_pdw [527] rfl rfl) (q_pdw [] rfl rfl)⟩
  · have hf := q_in h2 hf
    obtain ⟨j3, hj3, hf⟩ := q_bd hf
    refine q_blf 5 [j3] (a := q_kc (t, r, m, z, N, ext, rx, L) I E 13 [some (.ref 520), some (.int x1), some (.int x2), some (.int x3)] [] [] []) (b := q_kc (t, r, m, z, N, ext, rx, L) I E 11 [some (.ref 520), some (.int x1), some (.int x2), some (.int x3)] [] [] []) (P := ¬ ((I 521) j3) = (-1 : Int32)) ok_X14_tie rfl (q_cc hj3 q_cn) (fun h4 => ?_) (fun h4 => ?_)
    · have hf := q_ip h4 hf
      obtain ⟨j5, hj5, hf⟩ := q_bd hf
      obtain ⟨j6, hj6, hf⟩ := q_bd hf
      obtain ⟨j7, hj7, hf⟩ := q_bd hf
      refine q_blk 16 [j5, j6, j7] (c' := q_kc (t, r, m, z, N, ext, rx, L) I E 29 [some (.ref 520), some (.int x1), some (.int x2), some (.int x3)] [.int (1 : Int32)] [(527, (q_up (I 527) j7 ((I 521) j6)))] []) ok_X14_tie rfl (q_cc hj7 (q_cc hj6 (q_cc hj5 q_cn))) ?_
      cases hf
      exact q_kri ok_X14_tie rfl rfl rfl (Nat.le_of_ble_eq_true rfl) (Nat.le_of_ble_eq_true rfl) ⟨rfl, q_hpe (q_pdw [527] rfl rfl) (q_pdw [] rfl rfl)⟩
    · have hf := q_in h4 hf
      refine q_blk 1 [] (c' := q_kc (t, r, m, z, N, ext, rx, L) I E 12 [some (.ref 520), some (.int x1), some (.int x2), some (.int x3)] [.int (0 : Int32)] [] []) ok_X14_tie rfl q_cn ?_
      cases hf
      exact q_kri ok_X14_tie rfl rfl rfl (Nat.le_of_ble_eq_true rfl) (Nat.le_of_ble_eq_true rfl) ⟨rfl, q_hpe (q_pdw [527] rfl rfl) (q_pdw [] rfl rfl)⟩
set_option maxHeartbeats 4000000 in
theorem ct_X14_untie_520 {g : q_G} {t : Nat} {r : Nat} {m : Nat} {z : Nat} {N : Nat} {ext : Nat → q_Sh} {rx : Nat → Nat → Option Nat} {L : Nat → Nat → Int64} {d : Nat} (hd : 3 ≤ d)  {I : Nat → Nat → Int32} {E : Nat → Nat → Option Nat} {x1 : Int32} {x2 : Int32} {r0 : Bool × (Nat → Int32)} (hf : f_X14_untie (I 521) (I 525) (I 527) x1 x2 = some r0) : q_Ct g m_X14_untie d 0 0 [] [.ref 520, .int x1, .int x2] (q_hp (t, r, m, z, N, ext, rx, L) I E) (fun o h' => o = .inl (some (.int (q_bz r0.1))) ∧ h' = q_hp (t, r, m, z, N, ext, rx, L) (q_ws I [(527, r0.2)]) (q_ws E [])) := by
  rw [f_X14_untie] at hf
  refine q_Ct_of ok_X14_untie (Nat.le_of_ble_eq_true rfl) ?_ _ rfl rfl
  change q_J g m_X14_untie d 0 0 _ [] _ 0 0 (q_kc (t, r, m, z, N, ext, rx, L) I E 0 [some (.ref 520), some (.int x1), some (.int x2)] [] [] [])
  refine q_blk 3 [] (c' := q_kc (t, r, m, z, N, ext, rx, L) I E 3 [some (.ref 520), some (.int x1), some (.int x2)] [.int x2, .int x1, .ref 520] [] []) ok_X14_untie rfl q_cn ?_
  obtain ⟨r1, hr1, hf⟩ := q_bd hf
  refine q_kV (M2 := m_X14_hasRope) (As := [.int x1, .int x2]) (b := 520) (v2 := some (.int (q_bz r1))) ok_X14_untie ok_X14_hasRope cv_X14_hasRope (ct_X14_hasRope_520 (d := 2) (Nat.le_refl _) hr1) rfl rfl (Or.inl rfl) rfl rfl rfl rfl (Nat.le_trans (Nat.le_of_ble_eq_true rfl) hd) (Nat.le_of_ble_eq_true rfl) (Nat.le_of_ble_eq_true rfl) (Nat.le_of_ble_eq_true rfl) (fun x hx => absurd hx List.not_mem_nil) (q_nmL0 _) (q_nmS0 _) rfl (pos' := 4) (st' := [.int (q_bz r1)]) (lI' := []) (lE' := []) rfl rfl rfl rfl ?_
  refine q_blf 0 [] (a := q_kc (t, r, m, z, N, ext, rx, L) I E 7 [some (.ref 520), some (.int x1), some (.int x2)] [] [] []) (b := q_kc (t, r, m, z, N, ext, rx, L) I E 5 [some (.ref 520), some (.int x1), some (.int x2)] [] [] []) (P := ¬ (q_bz r1) = 0) ok_X14_untie rfl q_cn (fun h2 => ?_) (fun h2 => ?_)
  · have hf := q_ip h2 hf
    obtain ⟨j3, hj3, hf⟩ := q_bd hf
    obtain ⟨j4, hj4, hf⟩ := q_bd hf
    refine q_blk 13 [j3, j4] (c' := q_kc (t, r, m, z, N, ext, rx, L) I E 20 [some (.ref 520), some (.int x1), some (.int x2)] [.int (1 : Int32)] [(527, (q_up (I 527) j4 (-1 : Int32)))] []) ok_X14_untie rfl (q_cc hj4 (q_cc hj3 q_cn)) ?_
    cases hf
    exact q_kri ok_X14_untie rfl rfl rfl (Nat.le_of_ble_eq_true rfl) (Nat.le_of_ble_eq_true rfl) ⟨rfl, q_hpe (q_pdw [527] rfl rfl) (q_pdw [] rfl rfl)⟩
  · have hf := q_in h2 hf
    refine q_blk 1 [] (c' := q_kc (t, r, m, z, N, ext, rx, L) I E 6 [some (.ref 520), some (.int x1), some (.int x2)] [.int (0 : Int32)] [] []) ok_X14_untie rfl q_cn ?_
    cases hf
    exact q_kri ok_X14_untie rfl rfl rfl (Nat.le_of_ble_eq_true rfl) (Nat.le_of_ble_eq_true rfl) ⟨rfl, q_hpe (q_pdw [527] rfl rfl) (q_pdw [] rfl rfl)⟩
set_option maxHeartbeats 4000000 in
theorem ct_X14_leadsTo_520 {g : q_G} {t : Nat} {r : Nat} {m : Nat} {z : Nat} {N : Nat} {ext : Nat → q_Sh} {rx : Nat → Nat → Option Nat} {L : Nat → Nat → Int64} {d : Nat} (hd : 1 ≤ d)  {I : Nat → Nat → Int32} {E : Nat → Nat → Option Nat} {x1 : Int32} {x2 : Int32} {r0 : Int32} (hf : f_X14_leadsTo (I 521) (I 527) x1 x2 = some r0) : q_Ct g m_X14_leadsTo d 0 0 [] [.ref 520, .int x1, .int x2] (q_hp (t, r, m, z, N, ext, rx, L) I E) (fun o h' => o = .inl (some (.int r0)) ∧ h' = q_hp (t, r, m, z, N, ext, rx, L) (q_ws I []) (q_ws E [])) := by
  rw [f_X14_leadsTo] at hf
  refine q_Ct_of ok_X14_leadsTo (Nat.le_of_ble_eq_true rfl) ?_ _ rfl rfl
  change q_J g m_X14_leadsTo d 0 0 _ [] _ 0 0 (q_kc (t, r, m, z, N, ext, rx, L) I E 0 [some (.ref 520), some (.int x1), some (.int x2)] [] [] [])
  obtain ⟨j1, hj1, hf⟩ := q_bd hf
  obtain ⟨j2, hj2, hf⟩ := q_bd hf
  refine q_blk 11 [j1, j2] (c' := q_kc (t, r, m, z, N, ext, rx, L) I E 11 [some (.ref 520), some (.int x1), some (.int x2)] [.int ((I 527) j2)] [] []) ok_X14_leadsTo rfl (q_cc hj2 (q_cc hj1 q_cn)) ?_
  cases hf
  exact q_kri ok_X14_leadsTo rfl rfl rfl (Nat.le_of_ble_eq_true rfl) (Nat.le_of_ble_eq_true rfl) ⟨rfl, q_hpe (q_pdw [] rfl rfl) (q_pdw [] rfl rfl)⟩
set_option maxHeartbeats 4000000 in
theorem ct_X14_follow_520 {g : q_G} {t : Nat} {r : Nat} {m : Nat} {z : Nat} {N : Nat} {ext : Nat → q_Sh} {rx : Nat → Nat → Option Nat} {L : Nat → Nat → Int64} {d : Nat} (hd : 3 ≤ d)  {I : Nat → Nat → Int32} {E : Nat → Nat → Option Nat} {x1 : Int32} {x2 : Int32} {x3 : Int32} {r0 : Bool × (Nat → Int32)} (hf : f_X14_follow (I 521) (I 525) (I 527) x1 x2 x3 = some r0) : q_Ct g m_X14_follow d 0 0 [] [.ref 520, .int x1, .int x2, .int x3] (q_hp (t, r, m, z, N, ext, rx, L) I E) (fun o h' => o = .inl (some (.int (q_bz r0.1))) ∧ h' = q_hp (t, r, m, z, N, ext, rx, L) (q_ws I [(521, r0.2)]) (q_ws E [])) := by
  rw [f_X14_follow] at hf
  refine q_Ct_of ok_X14_follow (Nat.le_of_ble_eq_true rfl) ?_ _ rfl rfl
  change q_J g m_X14_follow d 0 0 _ [] _ 0 0 (q_kc (t, r, m, z, N, ext, rx, L) I E 0 [some (.ref 520), some (.int x1), some (.int x2), some (.int x3)] [] [] [])
  refine q_blk 3 [] (c' := q_kc (t, r, m, z, N, ext, rx, L) I E 3 [some (.ref 520), some (.int x1), some (.int x2), some (.int x3)] [.int x3, .int x2, .ref 520] [] []) ok_X14_follow rfl q_cn ?_
  obtain ⟨r1, hr1, hf⟩ := q_bd hf
  refine q_kV (M2 := m_X14_hasRope) (As := [.int x2, .int x3]) (b := 520) (v2 := some (.int (q_bz r1))) ok_X14_follow ok_X14_hasRope cv_X14_hasRope (ct_X14_hasRope_520 (d := 2) (Nat.le_refl _) hr1) rfl rfl (Or.inl rfl) rfl rfl rfl rfl (Nat.le_trans (Nat.le_of_ble_eq_true rfl) hd) (Nat.le_of_ble_eq_true rfl) (Nat.le_of_ble_eq_true rfl) (Nat.le_of_ble_eq_true rfl) (fun x hx => absurd hx List.not_mem_nil) (q_nmL0 _) (q_nmS0 _) rfl (pos' := 4) (st' := [.int (q_bz r1)]) (lI' := []) (lE' := []) rfl rfl rfl rfl ?_
  refine q_blf 0 [] (a := q_kc (t, r, m, z, N, ext, rx, L) I E 11 [some (.ref 520), some (.int x1), some (.int x2), some (.int x3)] [] [] []) (b := q_kc (t, r, m, z, N, ext, rx, L) I E 5 [some (.ref 520), some (.int x1), some (.int x2), some (.int x3)] [] [] []) (P := (q_bz r1) = 0) ok_X14_follow rfl q_cn (fun h2 => ?_) (fun h2 => ?_)
  · have hf := q_ip h2 hf
    refine q_blk 1 [] (c' := q_kc (t, r, m, z, N, ext, rx, L) I E 12 [some (.ref 520), some (.int x1), some (.int x2), some (.int x3)] [.int (0 : Int32)] [] []) ok_X14_follow rfl q_cn ?_
    cases hf
    exact q_kri ok_X14_follow rfl rfl rfl (Nat.le_of_ble_eq_true rfl) (Nat.le_of_ble_eq_true rfl) ⟨rfl, q_hpe (q_pdw [521] rfl rfl) (q_pdw [] rfl rfl)⟩
  · have hf := q_in h2 hf
    refine q_blk 3 [] (c' := q_kc (t, r, m, z, N, ext, rx, L) I E 8 [some (.ref 520), some (.int x1), some (.int x2), some (.int x3)] [.int x3, .int x2, .ref 520] [] []) ok_X14_follow rfl q_cn ?_
    obtain ⟨r3, hr3, hf⟩ := q_bd hf
    refine q_kV (M2 := m_X14_leadsTo) (As := [.int x2, .int x3]) (b := 520) (v2 := some (.int r3)) ok_X14_follow ok_X14_leadsTo cv_X14_leadsTo (ct_X14_leadsTo_520 (d := 1) (Nat.le_refl _) hr3) rfl rfl (Or.inl rfl) rfl rfl rfl rfl (Nat.le_trans (Nat.le_of_ble_eq_true rfl) hd) (Nat.le_of_ble_eq_true rfl) (Nat.le_of_ble_eq_true rfl) (Nat.le_of_ble_eq_true rfl) (fun x hx => absurd hx List.not_mem_nil) (q_nmL0 _) (q_nmS0 _) rfl (pos' := 9) (st' := [.int r3]) (lI' := []) (lE' := []) rfl rfl rfl rfl ?_
    refine q_blf 1 [] (a := q_kc (t, r, m, z, N, ext, rx, L) I E 13 [some (.ref 520), some (.int x1), some (.int x2), some (.int x3)] [] [] []) (b := q_kc (t, r, m, z, N, ext, rx, L) I E 11 [some (.ref 520), some (.int x1), some (.int x2), some (.int x3)] [] [] []) (P := ¬ r3 = (-1 : Int32)) ok_X14_follow rfl q_cn (fun h4 => ?_) (fun h4 => ?_)
    · have hf := q_ip h4 hf
      refine q_blk 6 [] (c' := q_kc (t, r, m, z, N, ext, rx, L) I E 19 [some (.ref 520), some (.int x1), some (.int x2), some (.int x3)] [.int x3, .int x2, .ref 520, .int x1, .ref 521] [] []) ok_X14_follow rfl q_cn ?_
      obtain ⟨r5, hr5, hf⟩ := q_bd hf
      refine q_kV (M2 := m_X14_leadsTo) (As := [.int x2, .int x3]) (b := 520) (v2 := some (.int r5)) ok_X14_follow ok_X14_leadsTo cv_X14_leadsTo (ct_X14_leadsTo_520 (d := 1) (Nat.le_refl _) hr5) rfl rfl (Or.inl rfl) rfl rfl rfl rfl (Nat.le_trans (Nat.le_of_ble_eq_true rfl) hd) (Nat.le_of_ble_eq_true rfl) (Nat.le_of_ble_eq_true rfl) (Nat.le_of_ble_eq_true rfl) (fun x hx => absurd hx List.not_mem_nil) (q_nmL0 _) (q_nmS0 _) rfl (pos' := 20) (st' := [.int r5, .int x1, .ref 521]) (lI' := []) (lE' := []) rfl rfl rfl rfl ?_
      obtain ⟨j6, hj6, hf⟩ := q_bd hf
      refine q_blk 2 [j6] (c' := q_kc (t, r, m, z, N, ext, rx, L) I E 22 [some (.ref 520), some (.int x1), some (.int x2), some (.int x3)] [.int (1 : Int32)] [(521, (q_up (I 521) j6 r5))] []) ok_X14_follow rfl (q_cc hj6 q_cn) ?_
      cases hf
      exact q_kri ok_X14_follow rfl rfl rfl (Nat.le_of_ble_eq_true rfl) (Nat.le_of_ble_eq_true rfl) ⟨rfl, q_hpe (q_pdw [521] rfl rfl) (q_pdw [] rfl rfl)⟩
    · have hf := q_in h4 hf
      refine q_blk 1 [] (c' := q_kc (t, r, m, z, N, ext, rx, L) I E 12 [some (.ref 520), some (.int x1), some (.int x2), some (.int x3)] [.int (0 : Int32)] [] []) ok_X14_follow rfl q_cn ?_
      cases hf
      exact q_kri ok_X14_follow rfl rfl rfl (Nat.le_of_ble_eq_true rfl) (Nat.le_of_ble_eq_true rfl) ⟨rfl, q_hpe (q_pdw [521] rfl rfl) (q_pdw [] rfl rfl)⟩
set_option maxHeartbeats 4000000 in
theorem ct_X14_drop_520 {g : q_G} {t : Nat} {r : Nat} {m : Nat} {z : Nat} {N : Nat} {ext : Nat → q_Sh} {rx : Nat → Nat → Option Nat} {L : Nat → Nat → Int64} {d : Nat} (hd : 1 ≤ d)  {I : Nat → Nat → Int32} {E : Nat → Nat → Option Nat} {x1 : Int32} {r0 : Bool × (Nat → Int32)} (hf : f_X14_drop (I 521) x1 = some r0) : q_Ct g m_X14_drop d 0 0 [] [.ref 520, .int x1] (q_hp (t, r, m, z, N, ext, rx, L) I E) (fun o h' => o = .inl (some (.int (q_bz r0.1))) ∧ h' = q_hp (t, r, m, z, N, ext, rx, L) (q_ws I [(521, r0.2)]) (q_ws E [])) := by
  rw [f_X14_drop] at hf
  refine q_Ct_of ok_X14_drop (Nat.le_of_ble_eq_true rfl) ?_ _ rfl rfl
  change q_J g m_X14_drop d 0 0 _ [] _ 0 0 (q_kc (t, r, m, z, N, ext, rx, L) I E 0 [some (.ref 520), some (.int x1)] [] [] [])
  obtain ⟨j1, hj1, hf⟩ := q_bd hf
  refine q_blf 5 [j1] (a := q_kc (t, r, m, z, N, ext, rx, L) I E 8 [some (.ref 520), some (.int x1)] [] [] []) (b := q_kc (t, r, m, z, N, ext, rx, L) I E 6 [some (.ref 520), some (.int x1)] [] [] []) (P := ¬ ((I 521) j1) = (-1 : Int32)) ok_X14_drop rfl (q_cc hj1 q_cn) (fun h2 => ?_) (fun h2 => ?_)
  · have hf := q_ip h2 hf
    obtain ⟨j3, hj3, hf⟩ := q_bd hf
    refine q_blk 6 [j3] (c' := q_kc (t, r, m, z, N, ext, rx, L) I E 14 [some (.ref 520), some (.int x1)] [.int (1 : Int32)] [(521, (q_up (I 521) j3 (-1 : Int32)))] []) ok_X14_drop rfl (q_cc hj3 q_cn) ?_
    cases hf
    exact q_kri ok_X14_drop rfl rfl rfl (Nat.le_of_ble_eq_true rfl) (Nat.le_of_ble_eq_true rfl) ⟨rfl, q_hpe (q_pdw [521] rfl rfl) (q_pdw [] rfl rfl)⟩
  · have hf := q_in h2 hf
    refine q_blk 1 [] (c' := q_kc (t, r, m, z, N, ext, rx, L) I E 7 [some (.ref 520), some (.int x1)] [.int (0 : Int32)] [] []) ok_X14_drop rfl q_cn ?_
    cases hf
    exact q_kri ok_X14_drop rfl rfl rfl (Nat.le_of_ble_eq_true rfl) (Nat.le_of_ble_eq_true rfl) ⟨rfl, q_hpe (q_pdw [521] rfl rfl) (q_pdw [] rfl rfl)⟩
set_option maxHeartbeats 4000000 in
theorem ct_X14_isDone_520 {g : q_G} {t : Nat} {r : Nat} {ext : Nat → q_Sh} {rx : Nat → Nat → Option Nat} {L : Nat → Nat → Int64} {d : Nat} (hd : 8 ≤ d)  {I : Nat → Nat → Int32} {E : Nat → Nat → Option Nat} {x1 : Int32} {r0 : Bool × (Nat → Int32) × (Nat → Int32) × (Nat → Int32) × (Nat → Int32) × (Nat → Int32) × (Nat → Int32) × (Nat → Int32) × (Nat → Int32) × (Nat → Int32) × (Nat → Int32) × (Nat → Int32) × (Nat → Int32)} (hf : f_X14_isDone (I 492) (I 499) (I 500) (I 501) (I 502) (I 503) (I 504) (I 505) (I 507) (I 509) (I 510) (I 511) (I 520) (I 521) (I 522) (I 523) (I 524) (I 525) (I 526) (I 527) x1 = some r0) : q_Ct g m_X14_isDone d 1 136 [] [.ref 520, .int x1] (q_hp (t, r, 1, 499, 529, ext, rx, L) I E) (fun o h' => o = .inl (some (.int (q_bz r0.1))) ∧ h' = q_hp (t, r, 1, 499, 529, ext, rx, L) (q_ws I [(492, r0.2.1), (509, r0.2.2.1), (510, r0.2.2.2.1), (511, r0.2.2.2.2.1), (520, r0.2.2.2.2.2.1), (521, r0.2.2.2.2.2.2.1), (522, r0.2.2.2.2.2.2.2.1), (523, r0.2.2.2.2.2.2.2.2.1), (524, r0.2.2.2.2.2.2.2.2.2.1), (525, r0.2.2.2.2.2.2.2.2.2.2.1), (526, r0.2.2.2.2.2.2.2.2.2.2.2.1), (527, r0.2.2.2.2.2.2.2.2.2.2.2.2)]) (q_ws E [])) := by
  rw [f_X14_isDone] at hf
  refine q_Ct_of ok_X14_isDone (Nat.le_of_ble_eq_true rfl) ?_ _ rfl rfl
  change q_J g m_X14_isDone d 1 136 _ [] _ 0 0 (q_kc (t, r, 1, 499, 529, ext, rx, L) I E 0 [some (.ref 520), some (.int x1)] [] [] [])
  obtain ⟨j1, hj1, hf⟩ := q_bd hf
  refine q_blk 6 [j1] (c' := q_kc (t, r, 1, 499, 529, ext, rx, L) I E 6 [some (.ref 520), some (.int x1)] [.int ((I 500) j1)] [] []) ok_X14_isDone rfl (q_cc hj1 q_cn) ?_
  refine q_ksw [7, 97, 97, 40, 97, 97, 61, 76] ok_X14_isDone rfl (dp := 97) rfl (fun ix t9 ht9 hx9 => ?_) (fun hx9 => ?_) (by decide) (by decide)
  · match ix, ht9 with
    | 0, ht9 =>
      have hx9 : ((I 500) j1) = 4 := hx9
      cases ht9
      have hf := q_ip hx9 hf
      obtain ⟨j2, hj2, hf⟩ := q_bd hf
      obtain ⟨j3, hj3, hf⟩ := q_bd hf
      obtain ⟨j4, hj4, hf⟩ := q_bd hf
      refine q_blk 22 [j2, j3, j4] (c' := q_kc (t, r, 1, 499, 529, ext, rx, L) I E 29 [some (.ref 520), some (.int x1)] [.int ((I 505) j4), .int ((I 504) j3), .ref 520, .int (9 : Int32), .int (1 : Int32), .int ((I 501) j2), .ref 520] [] []) ok_X14_isDone rfl (q_cc hj4 (q_cc hj3 (q_cc hj2 q_cn))) ?_
      obtain ⟨r5, hr5, hf⟩ := q_bd hf
      refine q_kV (M2 := m_X14_carryOut) (As := [.int ((I 504) j3), .int ((I 505) j4)]) (b := 520) (v2 := some (.int r5.1)) ok_X14_isDone ok_X14_carryOut cv_X14_carryOut (ct_X14_carryOut_520 (d := 4) (Nat.le_refl _) hr5) rfl rfl (Or.inl rfl) rfl rfl rfl rfl (Nat.le_trans (Nat.le_of_ble_eq_true rfl) hd) (Nat.le_of_ble_eq_true rfl) (Nat.le_of_ble_eq_true rfl) (Nat.le_of_ble_eq_true rfl) (fun x hx => absurd hx List.not_mem_nil) (q_nmL0 _) (q_nmS0 _) rfl (pos' := 30) (st' := [.int r5.1, .int (9 : Int32), .int (1 : Int32), .int ((I 501) j2), .ref 520]) (lI' := [(509, r5.2)]) (lE' := []) rfl rfl (q_mgw rfl rfl) rfl ?_
      refine q_kmn (pos' := 31) ok_X14_isDone rfl rfl (Nat.le_trans (Nat.le_of_ble_eq_true rfl) hd) (Nat.le_of_ble_eq_true rfl) (Nat.le_of_ble_eq_true rfl) (Nat.le_of_ble_eq_true rfl) rfl ?_
      refine q_kmx (pos' := 32) ok_X14_isDone rfl rfl (Nat.le_trans (Nat.le_of_ble_eq_true rfl) hd) (Nat.le_of_ble_eq_true rfl) (Nat.le_of_ble_eq_true rfl) (Nat.le_of_ble_eq_true rfl) rfl ?_
      obtain ⟨j6, hj6, hf⟩ := q_bd hf
      refine q_blk 6 [j6] (c' := q_kc (t, r, 1, 499, 529, ext, rx, L) I E 38 [some (.ref 520), some (.int x1)] [.int ((I 503) j6), .int (q_max (1 : Int32) (q_min (9 : Int32) r5.1)), .int ((I 501) j2), .ref 520] [(509, r5.2)] []) ok_X14_isDone rfl (q_cc hj6 q_cn) ?_
      obtain ⟨r7, hr7, hf⟩ := q_bd hf
      refine q_kV (M2 := m_X14_make) (As := [.int ((I 501) j2), .int (q_max (1 : Int32) (q_min (9 : Int32) r5.1)), .int ((I 503) j6)]) (b := 520) (v2 := some (.int (q_bz r7.1))) ok_X14_isDone ok_X14_make cv_X14_make (ct_X14_make_520 (d := 7) (Nat.le_refl _) hr7) rfl rfl (Or.inl rfl) rfl rfl rfl rfl (Nat.le_trans (Nat.le_of_ble_eq_true rfl) hd) (Nat.le_of_ble_eq_true rfl) (Nat.le_of_ble_eq_true rfl) (Nat.le_of_ble_eq_true rfl) (fun x hx => absurd hx List.not_mem_nil) (q_nmL0 _) (q_nmS0 _) rfl (pos' := 39) (st' := [.int (q_bz r7.1)]) (lI' := [(492, r7.2.1), (509, r5.2), (510, r7.2.2.1), (511, r7.2.2.2.1), (520, r7.2.2.2.2.1), (521, r7.2.2.2.2.2.1), (522, r7.2.2.2.2.2.2.1), (523, r7.2.2.2.2.2.2.2.1), (524, r7.2.2.2.2.2.2.2.2.1), (525, r7.2.2.2.2.2.2.2.2.2.1), (526, r7.2.2.2.2.2.2.2.2.2.2.1), (527, r7.2.2.2.2.2.2.2.2.2.2.2)]) (lE' := []) rfl rfl (q_mgw rfl rfl) rfl ?_
      cases hf
      exact q_kri ok_X14_isDone rfl rfl (q_bz_nr _) (Nat.le_of_ble_eq_true rfl) (Nat.le_of_ble_eq_true rfl) ⟨rfl, q_hpe (q_pdw [492, 509, 510, 511, 520, 521, 522, 523, 524, 525, 526, 527] rfl rfl) (q_pdw [] rfl rfl)⟩
    | 1, ht9 =>
      have hx9 : ((I 500) j1) = 5 := hx9
      cases ht9
      have hf := q_in (fun hz9 => absurd (hx9.symm.trans hz9) (by decide)) hf
      have hf := q_ip hx9 hf
      obtain ⟨j8, hj8, hf⟩ := q_bd hf
      refine q_blk 7 [j8] (c' := q_kc (t, r, 1, 499, 529, ext, rx, L) I E 104 [some (.ref 520), some (.int x1)] [.int ((I 501) j8), .ref 520] [] []) ok_X14_isDone rfl (q_cc hj8 q_cn) ?_
      obtain ⟨r9, hr9, hf⟩ := q_bd hf
      refine q_kV (M2 := m_X14_drop) (As := [.int ((I 501) j8)]) (b := 520) (v2 := some (.int (q_bz r9.1))) ok_X14_isDone ok_X14_drop cv_X14_drop (ct_X14_drop_520 (d := 1) (Nat.le_refl _) hr9) rfl rfl (Or.inl rfl) rfl rfl rfl rfl (Nat.le_trans (Nat.le_of_ble_eq_true rfl) hd) (Nat.le_of_ble_eq_true rfl) (Nat.le_of_ble_eq_true rfl) (Nat.le_of_ble_eq_true rfl) (fun x hx => absurd hx List.not_mem_nil) (q_nmL0 _) (q_nmS0 _) rfl (pos' := 105) (st' := [.int (q_bz r9.1)]) (lI' := [(521, r9.2)]) (lE' := []) rfl rfl (q_mgw rfl rfl) rfl ?_
      cases hf
      exact q_kri ok_X14_isDone rfl rfl (q_bz_nr _) (Nat.le_of_ble_eq_true rfl) (Nat.le_of_ble_eq_true rfl) ⟨rfl, q_hpe (q_pdw [492, 509, 510, 511, 520, 521, 522, 523, 524, 525, 526, 527] rfl rfl) (q_pdw [] rfl rfl)⟩
    | 2, ht9 =>
      have hx9 : ((I 500) j1) = 6 := hx9
      cases ht9
      have hf := q_in (fun hz9 => absurd (hx9.symm.trans hz9) (by decide)) hf
      have hf := q_in (fun hz9 => absurd (hx9.symm.trans hz9) (by decide)) hf
      have hf := q_ip hx9 hf
      obtain ⟨j10, hj10, hf⟩ := q_bd hf
      refine q_blk 7 [j10] (c' := q_kc (t, r, 1, 499, 529, ext, rx, L) I E 104 [some (.ref 520), some (.int x1)] [.int ((I 501) j10), .ref 520] [] []) ok_X14_isDone rfl (q_cc hj10 q_cn) ?_
      obtain ⟨r11, hr11, hf⟩ := q_bd hf
      refine q_kV (M2 := m_X14_drop) (As := [.int ((I 501) j10)]) (b := 520) (v2 := some (.int (q_bz r11.1))) ok_X14_isDone ok_X14_drop cv_X14_drop (ct_X14_drop_520 (d := 1) (Nat.le_refl _) hr11) rfl rfl (Or.inl rfl) rfl rfl rfl rfl (Nat.le_trans (Nat.le_of_ble_eq_true rfl) hd) (Nat.le_of_ble_eq_true rfl) (Nat.le_of_ble_eq_true rfl) (Nat.le_of_ble_eq_true rfl) (fun x hx => absurd hx List.not_mem_nil) (q_nmL0 _) (q_nmS0 _) rfl (pos' := 105) (st' := [.int (q_bz r11.1)]) (lI' := [(521, r11.2)]) (lE' := []) rfl rfl (q_mgw rfl rfl) rfl ?_
      cases hf
      exact q_kri ok_X14_isDone rfl rfl (q_bz_nr _) (Nat.le_of_ble_eq_true rfl) (Nat.le_of_ble_eq_true rfl) ⟨rfl, q_hpe (q_pdw [492, 509, 510, 511, 520, 521, 522, 523, 524, 525, 526, 527] rfl rfl) (q_pdw [] rfl rfl)⟩
    | 3, ht9 =>
      have hx9 : ((I 500) j1) = 7 := hx9
      cases ht9
      have hf := q_in (fun hz9 => absurd (hx9.symm.trans hz9) (by decide)) hf
      have hf := q_in (fun hz9 => absurd (hx9.symm.trans hz9) (by decide)) hf
      have hf := q_in (fun hz9 => absurd (hx9.symm.trans hz9) (by decide)) hf
      have hf := q_ip hx9 hf
      obtain ⟨j12, hj12, hf⟩ := q_bd hf
      obtain ⟨j13, hj13, hf⟩ := q_bd hf
      obtain ⟨j14, hj14, hf⟩ := q_bd hf
      refine q_blk 19 [j12, j13, j14] (c' := q_kc (t, r, 1, 499, 529, ext, rx, L) I E 59 [some (.ref 520), some (.int x1)] [.int ((I 502) j14), .int ((I 503) j13), .int ((I 501) j12), .ref 520] [] []) ok_X14_isDone rfl (q_cc hj14 (q_cc hj13 (q_cc hj12 q_cn))) ?_
      obtain ⟨r15, hr15, hf⟩ := q_bd hf
      refine q_kV (M2 := m_X14_tie) (As := [.int ((I 501) j12), .int ((I 503) j13), .int ((I 502) j14)]) (b := 520) (v2 := some (.int (q_bz r15.1))) ok_X14_isDone ok_X14_tie cv_X14_tie (ct_X14_tie_520 (d := 3) (Nat.le_refl _) hr15) rfl rfl (Or.inl rfl) rfl rfl rfl rfl (Nat.le_trans (Nat.le_of_ble_eq_true rfl) hd) (Nat.le_of_ble_eq_true rfl) (Nat.le_of_ble_eq_true rfl) (Nat.le_of_ble_eq_true rfl) (fun x hx => absurd hx List.not_mem_nil) (q_nmL0 _) (q_nmS0 _) rfl (pos' := 60) (st' := [.int (q_bz r15.1)]) (lI' := [(527, r15.2)]) (lE' := []) rfl rfl (q_mgw rfl rfl) rfl ?_
      cases hf
      exact q_kri ok_X14_isDone rfl rfl (q_bz_nr _) (Nat.le_of_ble_eq_true rfl) (Nat.le_of_ble_eq_true rfl) ⟨rfl, q_hpe (q_pdw [492, 509, 510, 511, 520, 521, 522, 523, 524, 525, 526, 527] rfl rfl) (q_pdw [] rfl rfl)⟩
    | 4, ht9 =>
      have hx9 : ((I 500) j1) = 8 := hx9
      cases ht9
      have hf := q_in (fun hz9 => absurd (hx9.symm.trans hz9) (by decide)) hf
      have hf := q_in (fun hz9 => absurd (hx9.symm.trans hz9) (by decide)) hf
      have hf := q_in (fun hz9 => absurd (hx9.symm.trans hz9) (by decide)) hf
      have hf := q_in (fun hz9 => absurd (hx9.symm.trans hz9) (by decide)) hf
      have hf := q_ip hx9 hf
      obtain ⟨j16, hj16, hf⟩ := q_bd hf
      refine q_blk 7 [j16] (c' := q_kc (t, r, 1, 499, 529, ext, rx, L) I E 104 [some (.ref 520), some (.int x1)] [.int ((I 501) j16), .ref 520] [] []) ok_X14_isDone rfl (q_cc hj16 q_cn) ?_
      obtain ⟨r17, hr17, hf⟩ := q_bd hf
      refine q_kV (M2 := m_X14_drop) (As := [.int ((I 501) j16)]) (b := 520) (v2 := some (.int (q_bz r17.1))) ok_X14_isDone ok_X14_drop cv_X14_drop (ct_X14_drop_520 (d := 1) (Nat.le_refl _) hr17) rfl rfl (Or.inl rfl) rfl rfl rfl rfl (Nat.le_trans (Nat.le_of_ble_eq_true rfl) hd) (Nat.le_of_ble_eq_true rfl) (Nat.le_of_ble_eq_true rfl) (Nat.le_of_ble_eq_true rfl) (fun x hx => absurd hx List.not_mem_nil) (q_nmL0 _) (q_nmS0 _) rfl (pos' := 105) (st' := [.int (q_bz r17.1)]) (lI' := [(521, r17.2)]) (lE' := []) rfl rfl (q_mgw rfl rfl) rfl ?_
      cases hf
      exact q_kri ok_X14_isDone rfl rfl (q_bz_nr _) (Nat.le_of_ble_eq_true rfl) (Nat.le_of_ble_eq_true rfl) ⟨rfl, q_hpe (q_pdw [492, 509, 510, 511, 520, 521, 522, 523, 524, 525, 526, 527] rfl rfl) (q_pdw [] rfl rfl)⟩
    | 5, ht9 =>
      have hx9 : ((I 500) j1) = 9 := hx9
      cases ht9
      have hf := q_in (fun hz9 => absurd (hx9.symm.trans hz9) (by decide)) hf
      have hf := q_in (fun hz9 => absurd (hx9.symm.trans hz9) (by decide)) hf
      have hf := q_in (fun hz9 => absurd (hx9.symm.trans hz9) (by decide)) hf
      have hf := q_in (fun hz9 => absurd (hx9.symm.trans hz9) (by decide)) hf
      have hf := q_in (fun hz9 => absurd (hx9.symm.trans hz9) (by decide)) hf
      have hf := q_ip hx9 hf
      obtain ⟨j18, hj18, hf⟩ := q_bd hf
      refine q_blk 7 [j18] (c' := q_kc (t, r, 1, 499, 529, ext, rx, L) I E 104 [some (.ref 520), some (.int x1)] [.int ((I 501) j18), .ref 520] [] []) ok_X14_isDone rfl (q_cc hj18 q_cn) ?_
      obtain ⟨r19, hr19, hf⟩ := q_bd hf
      refine q_kV (M2 := m_X14_drop) (As := [.int ((I 501) j18)]) (b := 520) (v2 := some (.int (q_bz r19.1))) ok_X14_isDone ok_X14_drop cv_X14_drop (ct_X14_drop_520 (d := 1) (Nat.le_refl _) hr19) rfl rfl (Or.inl rfl) rfl rfl rfl rfl (Nat.le_trans (Nat.le_of_ble_eq_true rfl) hd) (Nat.le_of_ble_eq_true rfl) (Nat.le_of_ble_eq_true rfl) (Nat.le_of_ble_eq_true rfl) (fun x hx => absurd hx List.not_mem_nil) (q_nmL0 _) (q_nmS0 _) rfl (pos' := 105) (st' := [.int (q_bz r19.1)]) (lI' := [(521, r19.2)]) (lE' := []) rfl rfl (q_mgw rfl rfl) rfl ?_
      cases hf
      exact q_kri ok_X14_isDone rfl rfl (q_bz_nr _) (Nat.le_of_ble_eq_true rfl) (Nat.le_of_ble_eq_true rfl) ⟨rfl, q_hpe (q_pdw [492, 509, 510, 511, 520, 521, 522, 523, 524, 525, 526, 527] rfl rfl) (q_pdw [] rfl rfl)⟩
    | 6, ht9 =>
      have hx9 : ((I 500) j1) = 10 := hx9
      cases ht9
      have hf := q_in (fun hz9 => absurd (hx9.symm.trans hz9) (by decide)) hf
      have hf := q_in (fun hz9 => absurd (hx9.symm.trans hz9) (by decide)) hf
      have hf := q_in (fun hz9 => absurd (hx9.symm.trans hz9) (by decide)) hf
      have hf := q_in (fun hz9 => absurd (hx9.symm.trans hz9) (by decide)) hf
      have hf := q_in (fun hz9 => absurd (hx9.symm.trans hz9) (by decide)) hf
      have hf := q_in (fun hz9 => absurd (hx9.symm.trans hz9) (by decide)) hf
      have hf := q_ip hx9 hf
      obtain ⟨j20, hj20, hf⟩ := q_bd hf
      obtain ⟨j21, hj21, hf⟩ := q_bd hf
      refine q_blk 13 [j20, j21] (c' := q_kc (t, r, 1, 499, 529, ext, rx, L) I E 74 [some (.ref 520), some (.int x1)] [.int ((I 503) j21), .int ((I 501) j20), .ref 520] [] []) ok_X14_isDone rfl (q_cc hj21 (q_cc hj20 q_cn)) ?_
      obtain ⟨r22, hr22, hf⟩ := q_bd hf
      refine q_kV (M2 := m_X14_untie) (As := [.int ((I 501) j20), .int ((I 503) j21)]) (b := 520) (v2 := some (.int (q_bz r22.1))) ok_X14_isDone ok_X14_untie cv_X14_untie (ct_X14_untie_520 (d := 3) (Nat.le_refl _) hr22) rfl rfl (Or.inl rfl) rfl rfl rfl rfl (Nat.le_trans (Nat.le_of_ble_eq_true rfl) hd) (Nat.le_of_ble_eq_true rfl) (Nat.le_of_ble_eq_true rfl) (Nat.le_of_ble_eq_true rfl) (fun x hx => absurd hx List.not_mem_nil) (q_nmL0 _) (q_nmS0 _) rfl (pos' := 75) (st' := [.int (q_bz r22.1)]) (lI' := [(527, r22.2)]) (lE' := []) rfl rfl (q_mgw rfl rfl) rfl ?_
      cases hf
      exact q_kri ok_X14_isDone rfl rfl (q_bz_nr _) (Nat.le_of_ble_eq_true rfl) (Nat.le_of_ble_eq_true rfl) ⟨rfl, q_hpe (q_pdw [492, 509, 510, 511, 520, 521, 522, 523, 524, 525, 526, 527] rfl rfl) (q_pdw [] rfl rfl)⟩
    | 7, ht9 =>
      have hx9 : ((I 500) j1) = 11 := hx9
      cases ht9
      have hf := q_in (fun hz9 => absurd (hx9.symm.trans hz9) (by decide)) hf
      have hf := q_in (fun hz9 => absurd (hx9.symm.trans hz9) (by decide)) hf
      have hf := q_in (fun hz9 => absurd (hx9.symm.trans hz9) (by decide)) hf
      have hf := q_in (fun hz9 => absurd (hx9.symm.trans hz9) (by decide)) hf
      have hf := q_in (fun hz9 => absurd (hx9.symm.trans hz9) (by decide)) hf
      have hf := q_in (fun hz9 => absurd (hx9.symm.trans hz9) (by decide)) hf
      have hf := q_in (fun hz9 => absurd (hx9.symm.trans hz9) (by decide)) hf
      have hf := q_ip hx9 hf
      obtain ⟨j23, hj23, hf⟩ := q_bd hf
      obtain ⟨j24, hj24, hf⟩ := q_bd hf
      obtain ⟨j25, hj25, hf⟩ := q_bd hf
      refine q_blk 19 [j23, j24, j25] (c' := q_kc (t, r, 1, 499, 529, ext, rx, L) I E 95 [some (.ref 520), some (.int x1)] [.int ((I 503) j25), .int ((I 502) j24), .int ((I 501) j23), .ref 520] [] []) ok_X14_isDone rfl (q_cc hj25 (q_cc hj24 (q_cc hj23 q_cn))) ?_
      obtain ⟨r26, hr26, hf⟩ := q_bd hf
      refine q_kV (M2 := m_X14_follow) (As := [.int ((I 501) j23), .int ((I 502) j24), .int ((I 503) j25)]) (b := 520) (v2 := some (.int (q_bz r26.1))) ok_X14_isDone ok_X14_follow cv_X14_follow (ct_X14_follow_520 (d := 3) (Nat.le_refl _) hr26) rfl rfl (Or.inl rfl) rfl rfl rfl rfl (Nat.le_trans (Nat.le_of_ble_eq_true rfl) hd) (Nat.le_of_ble_eq_true rfl) (Nat.le_of_ble_eq_true rfl) (Nat.le_of_ble_eq_true rfl) (fun x hx => absurd hx List.not_mem_nil) (q_nmL0 _) (q_nmS0 _) rfl (pos' := 96) (st' := [.int (q_bz r26.1)]) (lI' := [(521, r26.2)]) (lE' := []) rfl rfl (q_mgw rfl rfl) rfl ?_
      cases hf
      exact q_kri ok_X14_isDone rfl rfl (q_bz_nr _) (Nat.le_of_ble_eq_true rfl) (Nat.le_of_ble_eq_true rfl) ⟨rfl, q_hpe (q_pdw [492, 509, 510, 511, 520, 521, 522, 523, 524, 525, 526, 527] rfl rfl) (q_pdw [] rfl rfl)⟩
    | z9 + 8, ht9 => cases ht9
  · have hf := q_in (hx9 0 (by decide)) hf
    have hf := q_in (hx9 1 (by decide)) hf
    have hf := q_in (hx9 2 (by decide)) hf
    have hf := q_in (hx9 3 (by decide)) hf
    have hf := q_in (hx9 4 (by decide)) hf
    have hf := q_in (hx9 5 (by decide)) hf
    have hf := q_in (hx9 6 (by decide)) hf
    have hf := q_in (hx9 7 (by decide)) hf
    obtain ⟨j27, hj27, hf⟩ := q_bd hf
    refine q_blk 7 [j27] (c' := q_kc (t, r, 1, 499, 529, ext, rx, L) I E 104 [some (.ref 520), some (.int x1)] [.int ((I 501) j27), .ref 520] [] []) ok_X14_isDone rfl (q_cc hj27 q_cn) ?_
    obtain ⟨r28, hr28, hf⟩ := q_bd hf
    refine q_kV (M2 := m_X14_drop) (As := [.int ((I 501) j27)]) (b := 520) (v2 := some (.int (q_bz r28.1))) ok_X14_isDone ok_X14_drop cv_X14_drop (ct_X14_drop_520 (d := 1) (Nat.le_refl _) hr28) rfl rfl (Or.inl rfl) rfl rfl rfl rfl (Nat.le_trans (Nat.le_of_ble_eq_true rfl) hd) (Nat.le_of_ble_eq_true rfl) (Nat.le_of_ble_eq_true rfl) (Nat.le_of_ble_eq_true rfl) (fun x hx => absurd hx List.not_mem_nil) (q_nmL0 _) (q_nmS0 _) rfl (pos' := 105) (st' := [.int (q_bz r28.1)]) (lI' := [(521, r28.2)]) (lE' := []) rfl rfl (q_mgw rfl rfl) rfl ?_
    cases hf
    exact q_kri ok_X14_isDone rfl rfl (q_bz_nr _) (Nat.le_of_ble_eq_true rfl) (Nat.le_of_ble_eq_true rfl) ⟨rfl, q_hpe (q_pdw [492, 509, 510, 511, 520, 521, 522, 523, 524, 525, 526, 527] rfl rfl) (q_pdw [] rfl rfl)⟩
set_option maxHeartbeats 4000000 in
theorem ct_X14_goOn_520 {g : q_G} {t : Nat} {r : Nat} {ext : Nat → q_Sh} {rx : Nat → Nat → Option Nat} {L : Nat → Nat → Int64} {d : Nat} (hd : 9 ≤ d)  {I : Nat → Nat → Int32} {E : Nat → Nat → Option Nat} {r0 : Bool × (Nat → Int32) × (Nat → Int32) × (Nat → Int32) × (Nat → Int32) × (Nat → Int32) × (Nat → Int32) × (Nat → Int32) × (Nat → Int32) × (Nat → Int32) × (Nat → Int32) × (Nat → Int32) × (Nat → Int32)} (hf : f_X14_goOn (I 492) (I 499) (I 500) (I 501) (I 502) (I 503) (I 504) (I 505) (I 506) (I 507) (I 509) (I 510) (I 511) (I 520) (I 521) (I 522) (I 523) (I 524) (I 525) (I 526) (I 527) = some r0) : q_Ct g m_X14_goOn d 1 136 [] [.ref 520] (q_hp (t, r, 1, 499, 529, ext, rx, L) I E) (fun o h' => o = .inl (some (.int (q_bz r0.1))) ∧ h' = q_hp (t, r, 1, 499, 529, ext, rx, L) (q_ws I [(492, r0.2.1), (509, r0.2.2.1), (510, r0.2.2.2.1), (511, r0.2.2.2.2.1), (520, r0.2.2.2.2.2.1), (521, r0.2.2.2.2.2.2.1), (522, r0.2.2.2.2.2.2.2.1), (523, r0.2.2.2.2.2.2.2.2.1), (524, r0.2.2.2.2.2.2.2.2.2.1), (525, r0.2.2.2.2.2.2.2.2.2.2.1), (526, r0.2.2.2.2.2.2.2.2.2.2.2.1), (527, r0.2.2.2.2.2.2.2.2.2.2.2.2)]) (q_ws E [])) := by
  rw [f_X14_goOn] at hf
  refine q_Ct_of ok_X14_goOn (Nat.le_of_ble_eq_true rfl) ?_ _ rfl rfl
  change q_J g m_X14_goOn d 1 136 _ [] _ 0 0 (q_kc (t, r, 1, 499, 529, ext, rx, L) I E 0 [some (.ref 520), none, none, none] [] [] [])
  obtain ⟨u1, hu2, hf⟩ := q_bd hf
  refine q_blk 6 [] (c' := q_kc (t, r, 1, 499, 529, ext, rx, L) I E 6 [some (.ref 520), none, none, none] [.int ((I 499) 4), .int ((I 520) 0)] [] []) ok_X14_goOn rfl q_cn ?_
  refine q_krm (pos' := 7) ok_X14_goOn rfl (q_nz_ne hu2) rfl ?_
  obtain ⟨j3, hj3, hf⟩ := q_bd hf
  obtain ⟨j4, hj4, hf⟩ := q_bd hf
  refine q_blf 13 [j3, j4] (a := q_kc (t, r, 1, 499, 529, ext, rx, L) I E 37 [some (.ref 520), some (.int (((I 520) 0) - ((I 520) 0) / ((I 499) 4) * ((I 499) 4))), none, none] [] [] []) (b := q_kc (t, r, 1, 499, 529, ext, rx, L) I E 21 [some (.ref 520), some (.int (((I 520) 0) - ((I 520) 0) / ((I 499) 4) * ((I 499) 4))), none, none] [] [] []) (P := ((I 505) j3) = ((I 506) j4)) ok_X14_goOn rfl (q_cc hj4 (q_cc hj3 q_cn)) (fun h5 => ?_) (fun h5 => ?_)
  · have hf := q_ip h5 hf
    refine q_blf 4 [] (a := q_kc (t, r, 1, 499, 529, ext, rx, L) I E 49 [some (.ref 520), some (.int (((I 520) 0) - ((I 520) 0) / ((I 499) 4) * ((I 499) 4))), some (.int (1 : Int32)), none] [] [] []) (b := q_kc (t, r, 1, 499, 529, ext, rx, L) I E 43 [some (.ref 520), some (.int (((I 520) 0) - ((I 520) 0) / ((I 499) 4) * ((I 499) 4))), some (.int (1 : Int32)), none] [] [] []) (P := (1 : Int32) = 0) ok_X14_goOn rfl q_cn (fun h6 => ?_) (fun h6 => ?_)
    · have hf := q_ip h6 hf
      refine q_blf 12 [] (a := q_kc (t, r, 1, 499, 529, ext, rx, L) I E 66 [some (.ref 520), some (.int (((I 520) 0) - ((I 520) 0) / ((I 499) 4) * ((I 499) 4))), some (.int (1 : Int32)), some (.int (0 : Int32))] [.int ((q_up (I 520) 0 (((I 520) 0) + (1 : Int32))) 1), .ref 520] [(520, (q_up (I 520) 0 (((I 520) 0) + (1 : Int32))))] []) (b := q_kc (t, r, 1, 499, 529, ext, rx, L) I E 62 [some (.ref 520), some (.int (((I 520) 0) - ((I 520) 0) / ((I 499) 4) * ((I 499) 4))), some (.int (1 : Int32)), some (.int (0 : Int32))] [.int ((q_up (I 520) 0 (((I 520) 0) + (1 : Int32))) 1), .ref 520] [(520, (q_up (I 520) 0 (((I 520) 0) + (1 : Int32))))] []) (P := (1 : Int32) = 0) ok_X14_goOn rfl q_cn (fun h7 => ?_) (fun h7 => ?_)
      · have hf := q_ip h7 hf
        refine q_blk 4 [] (c' := q_kc (t, r, 1, 499, 529, ext, rx, L) I E 70 [some (.ref 520), some (.int (((I 520) 0) - ((I 520) 0) / ((I 499) 4) * ((I 499) 4))), some (.int (1 : Int32)), some (.int (0 : Int32))] [.int (0 : Int32)] [(520, (q_up (q_up (I 520) 0 (((I 520) 0) + (1 : Int32))) 1 (((q_up (I 520) 0 (((I 520) 0) + (1 : Int32))) 1) + (0 : Int32))))] []) ok_X14_goOn rfl q_cn ?_
        cases hf
        exact q_kri ok_X14_goOn rfl rfl rfl (Nat.le_of_ble_eq_true rfl) (Nat.le_of_ble_eq_true rfl) ⟨rfl, q_hpe (q_pdw [492, 509, 510, 511, 520, 521, 522, 523, 524, 525, 526, 527] rfl rfl) (q_pdw [] rfl rfl)⟩
      · have hf := q_in h7 hf
        refine q_blf 1 [] (a := q_kc (t, r, 1, 499, 529, ext, rx, L) I E 66 [some (.ref 520), some (.int (((I 520) 0) - ((I 520) 0) / ((I 499) 4) * ((I 499) 4))), some (.int (1 : Int32)), some (.int (0 : Int32))] [.int ((q_up (I 520) 0 (((I 520) 0) + (1 : Int32))) 1), .ref 520] [(520, (q_up (I 520) 0 (((I 520) 0) + (1 : Int32))))] []) (b := q_kc (t, r, 1, 499, 529, ext, rx, L) I E 64 [some (.ref 520), some (.int (((I 520) 0) - ((I 520) 0) / ((I 499) 4) * ((I 499) 4))), some (.int (1 : Int32)), some (.int (0 : Int32))] [.int ((q_up (I 520) 0 (((I 520) 0) + (1 : Int32))) 1), .ref 520] [(520, (q_up (I 520) 0 (((I 520) 0) + (1 : Int32))))] []) (P := ¬ (0 : Int32) = 0) ok_X14_goOn rfl q_cn (fun h8 => ?_) (fun h8 => ?_)
        · have hf := q_ip h8 hf
          refine q_blk 4 [] (c' := q_kc (t, r, 1, 499, 529, ext, rx, L) I E 70 [some (.ref 520), some (.int (((I 520) 0) - ((I 520) 0) / ((I 499) 4) * ((I 499) 4))), some (.int (1 : Int32)), some (.int (0 : Int32))] [.int (0 : Int32)] [(520, (q_up (q_up (I 520) 0 (((I 520) 0) + (1 : Int32))) 1 (((q_up (I 520) 0 (((I 520) 0) + (1 : Int32))) 1) + (0 : Int32))))] []) ok_X14_goOn rfl q_cn ?_
          cases hf
          exact q_kri ok_X14_goOn rfl rfl rfl (Nat.le_of_ble_eq_true rfl) (Nat.le_of_ble_eq_true rfl) ⟨rfl, q_hpe (q_pdw [492, 509, 510, 511, 520, 521, 522, 523, 524, 525, 526, 527] rfl rfl) (q_pdw [] rfl rfl)⟩
        · have hf := q_in h8 hf
          refine q_blk 5 [] (c' := q_kc (t, r, 1, 499, 529, ext, rx, L) I E 70 [some (.ref 520), some (.int (((I 520) 0) - ((I 520) 0) / ((I 499) 4) * ((I 499) 4))), some (.int (1 : Int32)), some (.int (0 : Int32))] [.int (0 : Int32)] [(520, (q_up (q_up (I 520) 0 (((I 520) 0) + (1 : Int32))) 1 (((q_up (I 520) 0 (((I 520) 0) + (1 : Int32))) 1) + (1 : Int32))))] []) ok_X14_goOn rfl q_cn ?_
          cases hf
          exact q_kri ok_X14_goOn rfl rfl rfl (Nat.le_of_ble_eq_true rfl) (Nat.le_of_ble_eq_true rfl) ⟨rfl, q_hpe (q_pdw [492, 509, 510, 511, 520, 521, 522, 523, 524, 525, 526, 527] rfl rfl) (q_pdw [] rfl rfl)⟩
    · have hf := q_in h6 hf
      refine q_blk 2 [] (c' := q_kc (t, r, 1, 499, 529, ext, rx, L) I E 45 [some (.ref 520), some (.int (((I 520) 0) - ((I 520) 0) / ((I 499) 4) * ((I 499) 4))), some (.int (1 : Int32)), none] [.int (((I 520) 0) - ((I 520) 0) / ((I 499) 4) * ((I 499) 4)), .ref 520] [] []) ok_X14_goOn rfl q_cn ?_
      obtain ⟨r9, hr9, hf⟩ := q_bd hf
      refine q_kV (M2 := m_X14_isDone) (As := [.int (((I 520) 0) - ((I 520) 0) / ((I 499) 4) * ((I 499) 4))]) (b := 520) (v2 := some (.int (q_bz r9.1))) ok_X14_goOn ok_X14_isDone cv_X14_isDone (ct_X14_isDone_520 (d := 8) (Nat.le_refl _) hr9) rfl rfl (Or.inl rfl) rfl rfl rfl rfl (Nat.le_trans (Nat.le_of_ble_eq_true rfl) hd) (Nat.le_of_ble_eq_true rfl) (Nat.le_of_ble_eq_true rfl) (Nat.le_of_ble_eq_true rfl) (fun x hx => absurd hx List.not_mem_nil) (q_nmL0 _) (q_nmS0 _) rfl (pos' := 46) (st' := [.int (q_bz r9.1)]) (lI' := [(492, r9.2.1), (509, r9.2.2.1), (510, r9.2.2.2.1), (511, r9.2.2.2.2.1), (520, r9.2.2.2.2.2.1), (521, r9.2.2.2.2.2.2.1), (522, r9.2.2.2.2.2.2.2.1), (523, r9.2.2.2.2.2.2.2.2.1), (524, r9.2.2.2.2.2.2.2.2.2.1), (525, r9.2.2.2.2.2.2.2.2.2.2.1), (526, r9.2.2.2.2.2.2.2.2.2.2.2.1), (527, r9.2.2.2.2.2.2.2.2.2.2.2.2)]) (lE' := []) rfl rfl (q_mgw rfl rfl) rfl ?_
      refine q_blf 0 [] (a := q_kc (t, r, 1, 499, 529, ext, rx, L) I E 49 [some (.ref 520), some (.int (((I 520) 0) - ((I 520) 0) / ((I 499) 4) * ((I 499) 4))), some (.int (1 : Int32)), none] [] [(492, r9.2.1), (509, r9.2.2.1), (510, r9.2.2.2.1), (511, r9.2.2.2.2.1), (520, r9.2.2.2.2.2.1), (521, r9.2.2.2.2.2.2.1), (522, r9.2.2.2.2.2.2.2.1), (523, r9.2.2.2.2.2.2.2.2.1), (524, r9.2.2.2.2.2.2.2.2.2.1), (525, r9.2.2.2.2.2.2.2.2.2.2.1), (526, r9.2.2.2.2.2.2.2.2.2.2.2.1), (527, r9.2.2.2.2.2.2.2.2.2.2.2.2)] []) (b := q_kc (t, r, 1, 499, 529, ext, rx, L) I E 47 [some (.ref 520), some (.int (((I 520) 0) - ((I 520) 0) / ((I 499) 4) * ((I 499) 4))), some (.int (1 : Int32)), none] [] [(492, r9.2.1), (509, r9.2.2.1), (510, r9.2.2.2.1), (511, r9.2.2.2.2.1), (520, r9.2.2.2.2.2.1), (521, r9.2.2.2.2.2.2.1), (522, r9.2.2.2.2.2.2.2.1), (523, r9.2.2.2.2.2.2.2.2.1), (524, r9.2.2.2.2.2.2.2.2.2.1), (525, r9.2.2.2.2.2.2.2.2.2.2.1), (526, r9.2.2.2.2.2.2.2.2.2.2.2.1), (527, r9.2.2.2.2.2.2.2.2.2.2.2.2)] []) (P := (q_bz r9.1) = 0) ok_X14_goOn rfl q_cn (fun h10 => ?_) (fun h10 => ?_)
      · have hf := q_ip h10 hf
        refine q_blf 12 [] (a := q_kc (t, r, 1, 499, 529, ext, rx, L) I E 66 [some (.ref 520), some (.int (((I 520) 0) - ((I 520) 0) / ((I 499) 4) * ((I 499) 4))), some (.int (1 : Int32)), some (.int (0 : Int32))] [.int ((q_up r9.2.2.2.2.2.1 0 ((r9.2.2.2.2.2.1 0) + (1 : Int32))) 1), .ref 520] [(492, r9.2.1), (509, r9.2.2.1), (510, r9.2.2.2.1), (511, r9.2.2.2.2.1), (520, (q_up r9.2.2.2.2.2.1 0 ((r9.2.2.2.2.2.1 0) + (1 : Int32)))), (521, r9.2.2.2.2.2.2.1), (522, r9.2.2.2.2.2.2.2.1), (523, r9.2.2.2.2.2.2.2.2.1), (524, r9.2.2.2.2.2.2.2.2.2.1), (525, r9.2.2.2.2.2.2.2.2.2.2.1), (526, r9.2.2.2.2.2.2.2.2.2.2.2.1), (527, r9.2.2.2.2.2.2.2.2.2.2.2.2)] []) (b := q_kc (t, r, 1, 499, 529, ext, rx, L) I E 62 [some (.ref 520), some (.int (((I 520) 0) - ((I 520) 0) / ((I 499) 4) * ((I 499) 4))), some (.int (1 : Int32)), some (.int (0 : Int32))] [.int ((q_up r9.2.2.2.2.2.1 0 ((r9.2.2.2.2.2.1 0) + (1 : Int32))) 1), .ref 520] [(492, r9.2.1), (509, r9.2.2.1), (510, r9.2.2.2.1), (511, r9.2.2.2.2.1), (520, (q_up r9.2.2.2.2.2.1 0 ((r9.2.2.2.2.2.1 0) + (1 : Int32)))), (521, r9.2.2.2.2.2.2.1), (522, r9.2.2.2.2.2.2.2.1), (523, r9.2.2.2.2.2.2.2.2.1), (524, r9.2.2.2.2.2.2.2.2.2.1), (525, r9.2.2.2.2.2.2.2.2.2.2.1), (526, r9.2.2.2.2.2.2.2.2.2.2.2.1), (527, r9.2.2.2.2.2.2.2.2.2.2.2.2)] []) (P := (1 : Int32) = 0) ok_X14_goOn rfl q_cn (fun h11 => ?_) (fun h11 => ?_)
        · have hf := q_ip h11 hf
          refine q_blk 4 [] (c' := q_kc (t, r, 1, 499, 529, ext, rx, L) I E 70 [some (.ref 520), some (.int (((I 520) 0) - ((I 520) 0) / ((I 499) 4) * ((I 499) 4))), some (.int (1 : Int32)), some (.int (0 : Int32))] [.int (0 : Int32)] [(492, r9.2.1), (509, r9.2.2.1), (510, r9.2.2.2.1), (511, r9.2.2.2.2.1), (520, (q_up (q_up r9.2.2.2.2.2.1 0 ((r9.2.2.2.2.2.1 0) + (1 : Int32))) 1 (((q_up r9.2.2.2.2.2.1 0 ((r9.2.2.2.2.2.1 0) + (1 : Int32))) 1) + (0 : Int32)))), (521, r9.2.2.2.2.2.2.1), (522, r9.2.2.2.2.2.2.2.1), (523, r9.2.2.2.2.2.2.2.2.1), (524, r9.2.2.2.2.2.2.2.2.2.1), (525, r9.2.2.2.2.2.2.2.2.2.2.1), (526, r9.2.2.2.2.2.2.2.2.2.2.2.1), (527, r9.2.2.2.2.2.2.2.2.2.2.2.2)] []) ok_X14_goOn rfl q_cn ?_
          cases hf
          exact q_kri ok_X14_goOn rfl rfl rfl (Nat.le_of_ble_eq_true rfl) (Nat.le_of_ble_eq_true rfl) ⟨rfl, q_hpe (q_pdw [492, 509, 510, 511, 520, 521, 522, 523, 524, 525, 526, 527] rfl rfl) (q_pdw [] rfl rfl)⟩
        · have hf := q_in h11 hf
          refine q_blf 1 [] (a := q_kc (t, r, 1, 499, 529, ext, rx, L) I E 66 [some (.ref 520), some (.int (((I 520) 0) - ((I 520) 0) / ((I 499) 4) * ((I 499) 4))), some (.int (1 : Int32)), some (.int (0 : Int32))] [.int ((q_up r9.2.2.2.2.2.1 0 ((r9.2.2.2.2.2.1 0) + (1 : Int32))) 1), .ref 520] [(492, r9.2.1), (509, r9.2.2.1), (510, r9.2.2.2.1), (511, r9.2.2.2.2.1), (520, (q_up r9.2.2.2.2.2.1 0 ((r9.2.2.2.2.2.1 0) + (1 : Int32)))), (521, r9.2.2.2.2.2.2.1), (522, r9.2.2.2.2.2.2.2.1), (523, r9.2.2.2.2.2.2.2.2.1), (524, r9.2.2.2.2.2.2.2.2.2.1), (525, r9.2.2.2.2.2.2.2.2.2.2.1), (526, r9.2.2.2.2.2.2.2.2.2.2.2.1), (527, r9.2.2.2.2.2.2.2.2.2.2.2.2)] []) (b := q_kc (t, r, 1, 499, 529, ext, rx, L) I E 64 [some (.ref 520), some (.int (((I 520) 0) - ((I 520) 0) / ((I 499) 4) * ((I 499) 4))), some (.int (1 : Int32)), some (.int (0 : Int32))] [.int ((q_up r9.2.2.2.2.2.1 0 ((r9.2.2.2.2.2.1 0) + (1 : Int32))) 1), .ref 520] [(492, r9.2.1), (509, r9.2.2.1), (510, r9.2.2.2.1), (511, r9.2.2.2.2.1), (520, (q_up r9.2.2.2.2.2.1 0 ((r9.2.2.2.2.2.1 0) + (1 : Int32)))), (521, r9.2.2.2.2.2.2.1), (522, r9.2.2.2.2.2.2.2.1), (523, r9.2.2.2.2.2.2.2.2.1), (524, r9.2.2.2.2.2.2.2.2.2.1), (525, r9.2.2.2.2.2.2.2.2.2.2.1), (526, r9.2.2.2.2.2.2.2.2.2.2.2.1), (527, r9.2.2.2.2.2.2.2.2.2.2.2.2)] []) (P := ¬ (0 : Int32) = 0) ok_X14_goOn rfl q_cn (fun h12 => ?_) (fun h12 => ?_)
          · have hf := q_ip h12 hf
            refine q_blk 4 [] (c' := q_kc (t, r, 1, 499, 529, ext, rx, L) I E 70 [some (.ref 520), some (.int (((I 520) 0) - ((I 520) 0) / ((I 499) 4) * ((I 499) 4))), some (.int (1 : Int32)), some (.int (0 : Int32))] [.int (0 : Int32)] [(492, r9.2.1), (509, r9.2.2.1), (510, r9.2.2.2.1), (511, r9.2.2.2.2.1), (520, (q_up (q_up r9.2.2.2.2.2.1 0 ((r9.2.2.2.2.2.1 0) + (1 : Int32))) 1 (((q_up r9.2.2.2.2.2.1 0 ((r9.2.2.2.2.2.1 0) + (1 : Int32))) 1) + (0 : Int32)))), (521, r9.2.2.2.2.2.2.1), (522, r9.2.2.2.2.2.2.2.1), (523, r9.2.2.2.2.2.2.2.2.1), (524, r9.2.2.2.2.2.2.2.2.2.1), (525, r9.2.2.2.2.2.2.2.2.2.2.1), (526, r9.2.2.2.2.2.2.2.2.2.2.2.1), (527, r9.2.2.2.2.2.2.2.2.2.2.2.2)] []) ok_X14_goOn rfl q_cn ?_
            cases hf
            exact q_kri ok_X14_goOn rfl rfl rfl (Nat.le_of_ble_eq_true rfl) (Nat.le_of_ble_eq_true rfl) ⟨rfl, q_hpe (q_pdw [492, 509, 510, 511, 520, 521, 522, 523, 524, 525, 526, 527] rfl rfl) (q_pdw [] rfl rfl)⟩
          · have hf := q_in h12 hf
            refine q_blk 5 [] (c' := q_kc (t, r, 1, 499, 529, ext, rx, L) I E 70 [some (.ref 520), some (.int (((I 520) 0) - ((I 520) 0) / ((I 499) 4) * ((I 499) 4))), some (.int (1 : Int32)), some (.int (0 : Int32))] [.int (0 : Int32)] [(492, r9.2.1), (509, r9.2.2.1), (510, r9.2.2.2.1), (511, r9.2.2.2.2.1), (520, (q_up (q_up r9.2.2.2.2.2.1 0 ((r9.2.2.2.2.2.1 0) + (1 : Int32))) 1 (((q_up r9.2.2.2.2.2.1 0 ((r9.2.2.2.2.2.1 0) + (1 : Int32))) 1) + (1 : Int32)))), (521, r9.2.2.2.2.2.2.1), (522, r9.2.2.2.2.2.2.2.1), (523, r9.2.2.2.2.2.2.2.2.1), (524, r9.2.2.2.2.2.2.2.2.2.1), (525, r9.2.2.2.2.2.2.2.2.2.2.1), (526, r9.2.2.2.2.2.2.2.2.2.2.2.1), (527, r9.2.2.2.2.2.2.2.2.2.2.2.2)] []) ok_X14_goOn rfl q_cn ?_
            cases hf
            exact q_kri ok_X14_goOn rfl rfl rfl (Nat.le_of_ble_eq_true rfl) (Nat.le_of_ble_eq_true rfl) ⟨rfl, q_hpe (q_pdw [492, 509, 510, 511, 520, 521, 522, 523, 524, 525, 526, 527] rfl rfl) (q_pdw [] rfl rfl)⟩
      · have hf := q_in h10 hf
        refine q_blf 13 [] (a := q_kc (t, r, 1, 499, 529, ext, rx, L) I E 66 [some (.ref 520), some (.int (((I 520) 0) - ((I 520) 0) / ((I 499) 4) * ((I 499) 4))), some (.int (1 : Int32)), some (.int (1 : Int32))] [.int ((q_up r9.2.2.2.2.2.1 0 ((r9.2.2.2.2.2.1 0) + (1 : Int32))) 1), .ref 520] [(492, r9.2.1), (509, r9.2.2.1), (510, r9.2.2.2.1), (511, r9.2.2.2.2.1), (520, (q_up r9.2.2.2.2.2.1 0 ((r9.2.2.2.2.2.1 0) + (1 : Int32)))), (521, r9.2.2.2.2.2.2.1), (522, r9.2.2.2.2.2.2.2.1), (523, r9.2.2.2.2.2.2.2.2.1), (524, r9.2.2.2.2.2.2.2.2.2.1), (525, r9.2.2.2.2.2.2.2.2.2.2.1), (526, r9.2.2.2.2.2.2.2.2.2.2.2.1), (527, r9.2.2.2.2.2.2.2.2.2.2.2.2)] []) (b := q_kc (t, r, 1, 499, 529, ext, rx, L) I E 62 [some (.ref 520), some (.int (((I 520) 0) - ((I 520) 0) / ((I 499) 4) * ((I 499) 4))), some (.int (1 : Int32)), some (.int (1 : Int32))] [.int ((q_up r9.2.2.2.2.2.1 0 ((r9.2.2.2.2.2.1 0) + (1 : Int32))) 1), .ref 520] [(492, r9.2.1), (509, r9.2.2.1), (510, r9.2.2.2.1), (511, r9.2.2.2.2.1), (520, (q_up r9.2.2.2.2.2.1 0 ((r9.2.2.2.2.2.1 0) + (1 : Int32)))), (521, r9.2.2.2.2.2.2.1), (522, r9.2.2.2.2.2.2.2.1), (523, r9.2.2.2.2.2.2.2.2.1), (524, r9.2.2.2.2.2.2.2.2.2.1), (525, r9.2.2.2.2.2.2.2.2.2.2.1), (526, r9.2.2.2.2.2.2.2.2.2.2.2.1), (527, r9.2.2.2.2.2.2.2.2.2.2.2.2)] []) (P := (1 : Int32) = 0) ok_X14_goOn rfl q_cn (fun h13 => ?_) (fun h13 => ?_)
        · have hf := q_ip h13 hf
          refine q_blk 4 [] (c' := q_kc (t, r, 1, 499, 529, ext, rx, L) I E 70 [some (.ref 520), some (.int (((I 520) 0) - ((I 520) 0) / ((I 499) 4) * ((I 499) 4))), some (.int (1 : Int32)), some (.int (1 : Int32))] [.int (1 : Int32)] [(492, r9.2.1), (509, r9.2.2.1), (510, r9.2.2.2.1), (511, r9.2.2.2.2.1), (520, (q_up (q_up r9.2.2.2.2.2.1 0 ((r9.2.2.2.2.2.1 0) + (1 : Int32))) 1 (((q_up r9.2.2.2.2.2.1 0 ((r9.2.2.2.2.2.1 0) + (1 : Int32))) 1) + (0 : Int32)))), (521, r9.2.2.2.2.2.2.1), (522, r9.2.2.2.2.2.2.2.1), (523, r9.2.2.2.2.2.2.2.2.1), (524, r9.2.2.2.2.2.2.2.2.2.1), (525, r9.2.2.2.2.2.2.2.2.2.2.1), (526, r9.2.2.2.2.2.2.2.2.2.2.2.1), (527, r9.2.2.2.2.2.2.2.2.2.2.2.2)] []) ok_X14_goOn rfl q_cn ?_
          cases hf
          exact q_kri ok_X14_goOn rfl rfl rfl (Nat.le_of_ble_eq_true rfl) (Nat.le_of_ble_eq_true rfl) ⟨rfl, q_hpe (q_pdw [492, 509, 510, 511, 520, 521, 522, 523, 524, 525, 526, 527] rfl rfl) (q_pdw [] rfl rfl)⟩
        · have hf := q_in h13 hf
          refine q_blf 1 [] (a := q_kc (t, r, 1, 499, 529, ext, rx, L) I E 66 [some (.ref 520), some (.int (((I 520) 0) - ((I 520) 0) / ((I 499) 4) * ((I 499) 4))), some (.int (1 : Int32)), some (.int (1 : Int32))] [.int ((q_up r9.2.2.2.2.2.1 0 ((r9.2.2.2.2.2.1 0) + (1 : Int32))) 1), .ref 520] [(492, r9.2.1), (509, r9.2.2.1), (510, r9.2.2.2.1), (511, r9.2.2.2.2.1), (520, (q_up r9.2.2.2.2.2.1 0 ((r9.2.2.2.2.2.1 0) + (1 : Int32)))), (521, r9.2.2.2.2.2.2.1), (522, r9.2.2.2.2.2.2.2.1), (523, r9.2.2.2.2.2.2.2.2.1), (524, r9.2.2.2.2.2.2.2.2.2.1), (525, r9.2.2.2.2.2.2.2.2.2.2.1), (526, r9.2.2.2.2.2.2.2.2.2.2.2.1), (527, r9.2.2.2.2.2.2.2.2.2.2.2.2)] []) (b := q_kc (t, r, 1, 499, 529, ext, rx, L) I E 64 [some (.ref 520), some (.int (((I 520) 0) - ((I 520) 0) / ((I 499) 4) * ((I 499) 4))), some (.int (1 : Int32)), some (.int (1 : Int32))] [.int ((q_up r9.2.2.2.2.2.1 0 ((r9.2.2.2.2.2.1 0) + (1 : Int32))) 1), .ref 520] [(492, r9.2.1), (509, r9.2.2.1), (510, r9.2.2.2.1), (511, r9.2.2.2.2.1), (520, (q_up r9.2.2.2.2.2.1 0 ((r9.2.2.2.2.2.1 0) + (1 : Int32)))), (521, r9.2.2.2.2.2.2.1), (522, r9.2.2.2.2.2.2.2.1), (523, r9.2.2.2.2.2.2.2.2.1), (524, r9.2.2.2.2.2.2.2.2.2.1), (525, r9.2.2.2.2.2.2.2.2.2.2.1), (526, r9.2.2.2.2.2.2.2.2.2.2.2.1), (527, r9.2.2.2.2.2.2.2.2.2.2.2.2)] []) (P := ¬ (1 : Int32) = 0) ok_X14_goOn rfl q_cn (fun h14 => ?_) (fun h14 => ?_)
          · have hf := q_ip h14 hf
            refine q_blk 4 [] (c' := q_kc (t, r, 1, 499, 529, ext, rx, L) I E 70 [some (.ref 520), some (.int (((I 520) 0) - ((I 520) 0) / ((I 499) 4) * ((I 499) 4))), some (.int (1 : Int32)), some (.int (1 : Int32))] [.int (1 : Int32)] [(492, r9.2.1), (509, r9.2.2.1), (510, r9.2.2.2.1), (511, r9.2.2.2.2.1), (520, (q_up (q_up r9.2.2.2.2.2.1 0 ((r9.2.2.2.2.2.1 0) + (1 : Int32))) 1 (((q_up r9.2.2.2.2.2.1 0 ((r9.2.2.2.2.2.1 0) + (1 : Int32))) 1) + (0 : Int32)))), (521, r9.2.2.2.2.2.2.1), (522, r9.2.2.2.2.2.2.2.1), (523, r9.2.2.2.2.2.2.2.2.1), (524, r9.2.2.2.2.2.2.2.2.2.1), (525, r9.2.2.2.2.2.2.2.2.2.2.1), (526, r9.2.2.2.2.2.2.2.2.2.2.2.1), (527, r9.2.2.2.2.2.2.2.2.2.2.2.2)] []) ok_X14_goOn rfl q_cn ?_
            cases hf
            exact q_kri ok_X14_goOn rfl rfl rfl (Nat.le_of_ble_eq_true rfl) (Nat.le_of_ble_eq_true rfl) ⟨rfl, q_hpe (q_pdw [492, 509, 510, 511, 520, 521, 522, 523, 524, 525, 526, 527] rfl rfl) (q_pdw [] rfl rfl)⟩
          · have hf := q_in h14 hf
            refine q_blk 5 [] (c' := q_kc (t, r, 1, 499, 529, ext, rx, L) I E 70 [some (.ref 520), some (.int (((I 520) 0) - ((I 520) 0) / ((I 499) 4) * ((I 499) 4))), some (.int (1 : Int32)), some (.int (1 : Int32))] [.int (1 : Int32)] [(492, r9.2.1), (509, r9.2.2.1), (510, r9.2.2.2.1), (511, r9.2.2.2.2.1), (520, (q_up (q_up r9.2.2.2.2.2.1 0 ((r9.2.2.2.2.2.1 0) + (1 : Int32))) 1 (((q_up r9.2.2.2.2.2.1 0 ((r9.2.2.2.2.2.1 0) + (1 : Int32))) 1) + (1 : Int32)))), (521, r9.2.2.2.2.2.2.1), (522, r9.2.2.2.2.2.2.2.1), (523, r9.2.2.2.2.2.2.2.2.1), (524, r9.2.2.2.2.2.2.2.2.2.1), (525, r9.2.2.2.2.2.2.2.2.2.2.1), (526, r9.2.2.2.2.2.2.2.2.2.2.2.1), (527, r9.2.2.2.2.2.2.2.2.2.2.2.2)] []) ok_X14_goOn rfl q_cn ?_
            cases hf
            exact q_kri ok_X14_goOn rfl rfl rfl (Nat.le_of_ble_eq_true rfl) (Nat.le_of_ble_eq_true rfl) ⟨rfl, q_hpe (q_pdw [492, 509, 510, 511, 520, 521, 522, 523, 524, 525, 526, 527] rfl rfl) (q_pdw [] rfl rfl)⟩
  · have hf := q_in h5 hf
    obtain ⟨j15, hj15, hf⟩ := q_bd hf
    obtain ⟨j16, hj16, hf⟩ := q_bd hf
    refine q_blk 13 [j15, j16] (c' := q_kc (t, r, 1, 499, 529, ext, rx, L) I E 34 [some (.ref 520), some (.int (((I 520) 0) - ((I 520) 0) / ((I 499) 4) * ((I 499) 4))), none, none] [.int ((I 506) j16), .int ((I 505) j15), .ref 520] [] []) ok_X14_goOn rfl (q_cc hj16 (q_cc hj15 q_cn)) ?_
    obtain ⟨r17, hr17, hf⟩ := q_bd hf
    refine q_kV (M2 := m_X14_carryOut) (As := [.int ((I 505) j15), .int ((I 506) j16)]) (b := 520) (v2 := some (.int r17.1)) ok_X14_goOn ok_X14_carryOut cv_X14_carryOut (ct_X14_carryOut_520 (d := 4) (Nat.le_refl _) hr17) rfl rfl (Or.inl rfl) rfl rfl rfl rfl (Nat.le_trans (Nat.le_of_ble_eq_true rfl) hd) (Nat.le_of_ble_eq_true rfl) (Nat.le_of_ble_eq_true rfl) (Nat.le_of_ble_eq_true rfl) (fun x hx => absurd hx List.not_mem_nil) (q_nmL0 _) (q_nmS0 _) rfl (pos' := 35) (st' := [.int r17.1]) (lI' := [(509, r17.2)]) (lE' := []) rfl rfl (q_mgw rfl rfl) rfl ?_
    refine q_blf 1 [] (a := q_kc (t, r, 1, 499, 529, ext, rx, L) I E 39 [some (.ref 520), some (.int (((I 520) 0) - ((I 520) 0) / ((I 499) 4) * ((I 499) 4))), none, none] [] [(509, r17.2)] []) (b := q_kc (t, r, 1, 499, 529, ext, rx, L) I E 37 [some (.ref 520), some (.int (((I 520) 0) - ((I 520) 0) / ((I 499) 4) * ((I 499) 4))), none, none] [] [(509, r17.2)] []) (P := ¬ r17.1 = (1 : Int32)) ok_X14_goOn rfl q_cn (fun h18 => ?_) (fun h18 => ?_)
    · have hf := q_ip h18 hf
      refine q_blf 3 [] (a := q_kc (t, r, 1, 499, 529, ext, rx, L) I E 49 [some (.ref 520), some (.int (((I 520) 0) - ((I 520) 0) / ((I 499) 4) * ((I 499) 4))), some (.int (0 : Int32)), none] [] [(509, r17.2)] []) (b := q_kc (t, r, 1, 499, 529, ext, rx, L) I E 43 [some (.ref 520), some (.int (((I 520) 0) - ((I 520) 0) / ((I 499) 4) * ((I 499) 4))), some (.int (0 : Int32)), none] [] [(509, r17.2)] []) (P := (0 : Int32) = 0) ok_X14_goOn rfl q_cn (fun h19 => ?_) (fun h19 => ?_)
      · have hf := q_ip h19 hf
        refine q_blf 12 [] (a := q_kc (t, r, 1, 499, 529, ext, rx, L) I E 66 [some (.ref 520), some (.int (((I 520) 0) - ((I 520) 0) / ((I 499) 4) * ((I 499) 4))), some (.int (0 : Int32)), some (.int (0 : Int32))] [.int ((q_up (I 520) 0 (((I 520) 0) + (1 : Int32))) 1), .ref 520] [(509, r17.2), (520, (q_up (I 520) 0 (((I 520) 0) + (1 : Int32))))] []) (b := q_kc (t, r, 1, 499, 529, ext, rx, L) I E 62 [some (.ref 520), some (.int (((I 520) 0) - ((I 520) 0) / ((I 499) 4) * ((I 499) 4))), some (.int (0 : Int32)), some (.int (0 : Int32))] [.int ((q_up (I 520) 0 (((I 520) 0) + (1 : Int32))) 1), .ref 520] [(509, r17.2), (520, (q_up (I 520) 0 (((I 520) 0) + (1 : Int32))))] []) (P := (0 : Int32) = 0) ok_X14_goOn rfl q_cn (fun h20 => ?_) (fun h20 => ?_)
        · have hf := q_ip h20 hf
          refine q_blk 4 [] (c' := q_kc (t, r, 1, 499, 529, ext, rx, L) I E 70 [some (.ref 520), some (.int (((I 520) 0) - ((I 520) 0) / ((I 499) 4) * ((I 499) 4))), some (.int (0 : Int32)), some (.int (0 : Int32))] [.int (0 : Int32)] [(509, r17.2), (520, (q_up (q_up (I 520) 0 (((I 520) 0) + (1 : Int32))) 1 (((q_up (I 520) 0 (((I 520) 0) + (1 : Int32))) 1) + (0 : Int32))))] []) ok_X14_goOn rfl q_cn ?_
          cases hf
          exact q_kri ok_X14_goOn rfl rfl rfl (Nat.le_of_ble_eq_true rfl) (Nat.le_of_ble_eq_true rfl) ⟨rfl, q_hpe (q_pdw [492, 509, 510, 511, 520, 521, 522, 523, 524, 525, 526, 527] rfl rfl) (q_pdw [] rfl rfl)⟩
        · have hf := q_in h20 hf
          refine q_blf 1 [] (a := q_kc (t, r, 1, 499, 529, ext, rx, L) I E 66 [some (.ref 520), some (.int (((I 520) 0) - ((I 520) 0) / ((I 499) 4) * ((I 499) 4))), some (.int (0 : Int32)), some (.int (0 : Int32))] [.int ((q_up (I 520) 0 (((I 520) 0) + (1 : Int32))) 1), .ref 520] [(509, r17.2), (520, (q_up (I 520) 0 (((I 520) 0) + (1 : Int32))))] []) (b := q_kc (t, r, 1, 499, 529, ext, rx, L) I E 64 [some (.ref 520), some (.int (((I 520) 0) - ((I 520) 0) / ((I 499) 4) * ((I 499) 4))), some (.int (0 : Int32)), some (.int (0 : Int32))] [.int ((q_up (I 520) 0 (((I 520) 0) + (1 : Int32))) 1), .ref 520] [(509, r17.2), (520, (q_up (I 520) 0 (((I 520) 0) + (1 : Int32))))] []) (P := ¬ (0 : Int32) = 0) ok_X14_goOn rfl q_cn (fun h21 => ?_) (fun h21 => ?_)
          · have hf := q_ip h21 hf
            refine q_blk 4 [] (c' := q_kc (t, r, 1, 499, 529, ext, rx, L) I E 70 [some (.ref 520), some (.int (((I 520) 0) - ((I 520) 0) / ((I 499) 4) * ((I 499) 4))), some (.int (0 : Int32)), some (.int (0 : Int32))] [.int (0 : Int32)] [(509, r17.2), (520, (q_up (q_up (I 520) 0 (((I 520) 0) + (1 : Int32))) 1 (((q_up (I 520) 0 (((I 520) 0) + (1 : Int32))) 1) + (0 : Int32))))] []) ok_X14_goOn rfl q_cn ?_
            cases hf
            exact q_kri ok_X14_goOn rfl rfl rfl (Nat.le_of_ble_eq_true rfl) (Nat.le_of_ble_eq_true rfl) ⟨rfl, q_hpe (q_pdw [492, 509, 510, 511, 520, 521, 522, 523, 524, 525, 526, 527] rfl rfl) (q_pdw [] rfl rfl)⟩
          · have hf := q_in h21 hf
            refine q_blk 5 [] (c' := q_kc (t, r, 1, 499, 529, ext, rx, L) I E 70 [some (.ref 520), some (.int (((I 520) 0) - ((I 520) 0) / ((I 499) 4) * ((I 499) 4))), some (.int (0 : Int32)), some (.int (0 : Int32))] [.int (0 : Int32)] [(509, r17.2), (520, (q_up (q_up (I 520) 0 (((I 520) 0) + (1 : Int32))) 1 (((q_up (I 520) 0 (((I 520) 0) + (1 : Int32))) 1) + (1 : Int32))))] []) ok_X14_goOn rfl q_cn ?_
            cases hf
            exact q_kri ok_X14_goOn rfl rfl rfl (Nat.le_of_ble_eq_true rfl) (Nat.le_of_ble_eq_true rfl) ⟨rfl, q_hpe (q_pdw [492, 509, 510, 511, 520, 521, 522, 523, 524, 525, 526, 527] rfl rfl) (q_pdw [] rfl rfl)⟩
      · have hf := q_in h19 hf
        refine q_blk 2 [] (c' := q_kc (t, r, 1, 499, 529, ext, rx, L) I E 45 [some (.ref 520), some (.int (((I 520) 0) - ((I 520) 0) / ((I 499) 4) * ((I 499) 4))), some (.int (0 : Int32)), none] [.int (((I 520) 0) - ((I 520) 0) / ((I 499) 4) * ((I 499) 4)), .ref 520] [(509, r17.2)] []) ok_X14_goOn rfl q_cn ?_
        obtain ⟨r22, hr22, hf⟩ := q_bd hf
        refine q_kV (M2 := m_X14_isDone) (As := [.int (((I 520) 0) - ((I 520) 0) / ((I 499) 4) * ((I 499) 4))]) (b := 520) (v2 := some (.int (q_bz r22.1))) ok_X14_goOn ok_X14_isDone cv_X14_isDone (ct_X14_isDone_520 (d := 8) (Nat.le_refl _) hr22) rfl rfl (Or.inl rfl) rfl rfl rfl rfl (Nat.le_trans (Nat.le_of_ble_eq_true rfl) hd) (Nat.le_of_ble_eq_true rfl) (Nat.le_of_ble_eq_true rfl) (Nat.le_of_ble_eq_true rfl) (fun x hx => absurd hx List.not_mem_nil) (q_nmL0 _) (q_nmS0 _) rfl (pos' := 46) (st' := [.int (q_bz r22.1)]) (lI' := [(492, r22.2.1), (509, r22.2.2.1), (510, r22.2.2.2.1), (511, r22.2.2.2.2.1), (520, r22.2.2.2.2.2.1), (521, r22.2.2.2.2.2.2.1), (522, r22.2.2.2.2.2.2.2.1), (523, r22.2.2.2.2.2.2.2.2.1), (524, r22.2.2.2.2.2.2.2.2.2.1), (525, r22.2.2.2.2.2.2.2.2.2.2.1), (526, r22.2.2.2.2.2.2.2.2.2.2.2.1), (527, r22.2.2.2.2.2.2.2.2.2.2.2.2)]) (lE' := []) rfl rfl (q_mgw rfl rfl) rfl ?_
        refine q_blf 0 [] (a := q_kc (t, r, 1, 499, 529, ext, rx, L) I E 49 [some (.ref 520), some (.int (((I 520) 0) - ((I 520) 0) / ((I 499) 4) * ((I 499) 4))), some (.int (0 : Int32)), none] [] [(492, r22.2.1), (509, r22.2.2.1), (510, r22.2.2.2.1), (511, r22.2.2.2.2.1), (520, r22.2.2.2.2.2.1), (521, r22.2.2.2.2.2.2.1), (522, r22.2.2.2.2.2.2.2.1), (523, r22.2.2.2.2.2.2.2.2.1), (524, r22.2.2.2.2.2.2.2.2.2.1), (525, r22.2.2.2.2.2.2.2.2.2.2.1), (526, r22.2.2.2.2.2.2.2.2.2.2.2.1), (527, r22.2.2.2.2.2.2.2.2.2.2.2.2)] []) (b := q_kc (t, r, 1, 499, 529, ext, rx, L) I E 47 [some (.ref 520), some (.int (((I 520) 0) - ((I 520) 0) / ((I 499) 4) * ((I 499) 4))), some (.int (0 : Int32)), none] [] [(492, r22.2.1), (509, r22.2.2.1), (510, r22.2.2.2.1), (511, r22.2.2.2.2.1), (520, r22.2.2.2.2.2.1), (521, r22.2.2.2.2.2.2.1), (522, r22.2.2.2.2.2.2.2.1), (523, r22.2.2.2.2.2.2.2.2.1), (524, r22.2.2.2.2.2.2.2.2.2.1), (525, r22.2.2.2.2.2.2.2.2.2.2.1), (526, r22.2.2.2.2.2.2.2.2.2.2.2.1), (527, r22.2.2.2.2.2.2.2.2.2.2.2.2)] []) (P := (q_bz r22.1) = 0) ok_X14_goOn rfl q_cn (fun h23 => ?_) (fun h23 => ?_)
        · have hf := q_ip h23 hf
          refine q_blf 12 [] (a := q_kc (t, r, 1, 499, 529, ext, rx, L) I E 66 [some (.ref 520), some (.int (((I 520) 0) - ((I 520) 0) / ((I 499) 4) * ((I 499) 4))), some (.int (0 : Int32)), some (.int (0 : Int32))] [.int ((q_up r22.2.2.2.2.2.1 0 ((r22.2.2.2.2.2.1 0) + (1 : Int32))) 1), .ref 520] [(492, r22.2.1), (509, r22.2.2.1), (510, r22.2.2.2.1), (511, r22.2.2.2.2.1), (520, (q_up r22.2.2.2.2.2.1 0 ((r22.2.2.2.2.2.1 0) + (1 : Int32)))), (521, r22.2.2.2.2.2.2.1), (522, r22.2.2.2.2.2.2.2.1), (523, r22.2.2.2.2.2.2.2.2.1), (524, r22.2.2.2.2.2.2.2.2.2.1), (525, r22.2.2.2.2.2.2.2.2.2.2.1), (526, r22.2.2.2.2.2.2.2.2.2.2.2.1), (527, r22.2.2.2.2.2.2.2.2.2.2.2.2)] []) (b := q_kc (t, r, 1, 499, 529, ext, rx, L) I E 62 [some (.ref 520), some (.int (((I 520) 0) - ((I 520) 0) / ((I 499) 4) * ((I 499) 4))), some (.int (0 : Int32)), some (.int (0 : Int32))] [.int ((q_up r22.2.2.2.2.2.1 0 ((r22.2.2.2.2.2.1 0) + (1 : Int32))) 1), .ref 520] [(492, r22.2.1), (509, r22.2.2.1), (510, r22.2.2.2.1), (511, r22.2.2.2.2.1), (520, (q_up r22.2.2.2.2.2.1 0 ((r22.2.2.2.2.2.1 0) + (1 : Int32)))), (521, r22.2.2.2.2.2.2.1), (522, r22.2.2.2.2.2.2.2.1), (523, r22.2.2.2.2.2.2.2.2.1), (524, r22.2.2.2.2.2.2.2.2.2.1), (525, r22.2.2.2.2.2.2.2.2.2.2.1), (526, r22.2.2.2.2.2.2.2.2.2.2.2.1), (527, r22.2.2.2.2.2.2.2.2.2.2.2.2)] []) (P := (0 : Int32) = 0) ok_X14_goOn rfl q_cn (fun h24 => ?_) (fun h24 => ?_)
          · have hf := q_ip h24 hf
            refine q_blk 4 [] (c' := q_kc (t, r, 1, 499, 529, ext, rx, L) I E 70 [some (.ref 520), some (.int (((I 520) 0) - ((I 520) 0) / ((I 499) 4) * ((I 499) 4))), some (.int (0 : Int32)), some (.int (0 : Int32))] [.int (0 : Int32)] [(492, r22.2.1), (509, r22.2.2.1), (510, r22.2.2.2.1), (511, r22.2.2.2.2.1), (520, (q_up (q_up r22.2.2.2.2.2.1 0 ((r22.2.2.2.2.2.1 0) + (1 : Int32))) 1 (((q_up r22.2.2.2.2.2.1 0 ((r22.2.2.2.2.2.1 0) + (1 : Int32))) 1) + (0 : Int32)))), (521, r22.2.2.2.2.2.2.1), (522, r22.2.2.2.2.2.2.2.1), (523, r22.2.2.2.2.2.2.2.2.1), (524, r22.2.2.2.2.2.2.2.2.2.1), (525, r22.2.2.2.2.2.2.2.2.2.2.1), (526, r22.2.2.2.2.2.2.2.2.2.2.2.1), (527, r22.2.2.2.2.2.2.2.2.2.2.2.2)] []) ok_X14_goOn rfl q_cn ?_
            cases hf
            exact q_kri ok_X14_goOn rfl rfl rfl (Nat.le_of_ble_eq_true rfl) (Nat.le_of_ble_eq_true rfl) ⟨rfl, q_hpe (q_pdw [492, 509, 510, 511, 520, 521, 522, 523, 524, 525, 526, 527] rfl rfl) (q_pdw [] rfl rfl)⟩
          · have hf := q_in h24 hf
            refine q_blf 1 [] (a := q_kc (t, r, 1, 499, 529, ext, rx, L) I E 66 [some (.ref 520), some (.int (((I 520) 0) - ((I 520) 0) / ((I 499) 4) * ((I 499) 4))), some (.int (0 : Int32)), some (.int (0 : Int32))] [.int ((q_up r22.2.2.2.2.2.1 0 ((r22.2.2.2.2.2.1 0) + (1 : Int32))) 1), .ref 520] [(492, r22.2.1), (509, r22.2.2.1), (510, r22.2.2.2.1), (511, r22.2.2.2.2.1), (520, (q_up r22.2.2.2.2.2.1 0 ((r22.2.2.2.2.2.1 0) + (1 : Int32)))), (521, r22.2.2.2.2.2.2.1), (522, r22.2.2.2.2.2.2.2.1), (523, r22.2.2.2.2.2.2.2.2.1), (524, r22.2.2.2.2.2.2.2.2.2.1), (525, r22.2.2.2.2.2.2.2.2.2.2.1), (526, r22.2.2.2.2.2.2.2.2.2.2.2.1), (527, r22.2.2.2.2.2.2.2.2.2.2.2.2)] []) (b := q_kc (t, r, 1, 499, 529, ext, rx, L) I E 64 [some (.ref 520), some (.int (((I 520) 0) - ((I 520) 0) / ((I 499) 4) * ((I 499) 4))), some (.int (0 : Int32)), some (.int (0 : Int32))] [.int ((q_up r22.2.2.2.2.2.1 0 ((r22.2.2.2.2.2.1 0) + (1 : Int32))) 1), .ref 520] [(492, r22.2.1), (509, r22.2.2.1), (510, r22.2.2.2.1), (511, r22.2.2.2.2.1), (520, (q_up r22.2.2.2.2.2.1 0 ((r22.2.2.2.2.2.1 0) + (1 : Int32)))), (521, r22.2.2.2.2.2.2.1), (522, r22.2.2.2.2.2.2.2.1), (523, r22.2.2.2.2.2.2.2.2.1), (524, r22.2.2.2.2.2.2.2.2.2.1), (525, r22.2.2.2.2.2.2.2.2.2.2.1), (526, r22.2.2.2.2.2.2.2.2.2.2.2.1), (527, r22.2.2.2.2.2.2.2.2.2.2.2.2)] []) (P := ¬ (0 : Int32) = 0) ok_X14_goOn rfl q_cn (fun h25 => ?_) (fun h25 => ?_)
            · have hf := q_ip h25 hf
              refine q_blk 4 [] (c' := q_kc (t, r, 1, 499, 529, ext, rx, L) I E 70 [some (.ref 520), some (.int (((I 520) 0) - ((I 520) 0) / ((I 499) 4) * ((I 499) 4))), some (.int (0 : Int32)), some (.int (0 : Int32))] [.int (0 : Int32)] [(492, r22.2.1), (509, r22.2.2.1), (510, r22.2.2.2.1), (511, r22.2.2.2.2.1), (520, (q_up (q_up r22.2.2.2.2.2.1 0 ((r22.2.2.2.2.2.1 0) + (1 : Int32))) 1 (((q_up r22.2.2.2.2.2.1 0 ((r22.2.2.2.2.2.1 0) + (1 : Int32))) 1) + (0 : Int32)))), (521, r22.2.2.2.2.2.2.1), (522, r22.2.2.2.2.2.2.2.1), (523, r22.2.2.2.2.2.2.2.2.1), (524, r22.2.2.2.2.2.2.2.2.2.1), (525, r22.2.2.2.2.2.2.2.2.2.2.1), (526, r22.2.2.2.2.2.2.2.2.2.2.2.1), (527, r22.2.2.2.2.2.2.2.2.2.2.2.2)] []) ok_X14_goOn rfl q_cn ?_
              cases hf
              exact q_kri ok_X14_goOn rfl rfl rfl (Nat.le_of_ble_eq_true rfl) (Nat.le_of_ble_eq_true rfl) ⟨rfl, q_hpe (q_pdw [492, 509, 510, 511, 520, 521, 522, 523, 524, 525, 526, 527] rfl rfl) (q_pdw [] rfl rfl)⟩
            · have hf := q_in h25 hf
              refine q_blk 5 [] (c' := q_kc (t, r, 1, 499, 529, ext, rx, L) I E 70 [some (.ref 520), some (.int (((I 520) 0) - ((I 520) 0) / ((I 499) 4) * ((I 499) 4))), some (.int (0 : Int32)), some (.int (0 : Int32))] [.int (0 : Int32)] [(492, r22.2.1), (509, r22.2.2.1), (510, r22.2.2.2.1), (511, r22.2.2.2.2.1), (520, (q_up (q_up r22.2.2.2.2.2.1 0 ((r22.2.2.2.2.2.1 0) + (1 : Int32))) 1 (((q_up r22.2.2.2.2.2.1 0 ((r22.2.2.2.2.2.1 0) + (1 : Int32))) 1) + (1 : Int32)))), (521, r22.2.2.2.2.2.2.1), (522, r22.2.2.2.2.2.2.2.1), (523, r22.2.2.2.2.2.2.2.2.1), (524, r22.2.2.2.2.2.2.2.2.2.1), (525, r22.2.2.2.2.2.2.2.2.2.2.1), (526, r22.2.2.2.2.2.2.2.2.2.2.2.1), (527, r22.2.2.2.2.2.2.2.2.2.2.2.2)] []) ok_X14_goOn rfl q_cn ?_
              cases hf
              exact q_kri ok_X14_goOn rfl rfl rfl (Nat.le_of_ble_eq_true rfl) (Nat.le_of_ble_eq_true rfl) ⟨rfl, q_hpe (q_pdw [492, 509, 510, 511, 520, 521, 522, 523, 524, 525, 526, 527] rfl rfl) (q_pdw [] rfl rfl)⟩
        · have hf := q_in h23 hf
          refine q_blf 13 [] (a := q_kc (t, r, 1, 499, 529, ext, rx, L) I E 66 [some (.ref 520), some (.int (((I 520) 0) - ((I 520) 0) / ((I 499) 4) * ((I 499) 4))), some (.int (0 : Int32)), some (.int (1 : Int32))] [.int ((q_up r22.2.2.2.2.2.1 0 ((r22.2.2.2.2.2.1 0) + (1 : Int32))) 1), .ref 520] [(492, r22.2.1), (509, r22.2.2.1), (510, r22.2.2.2.1), (511, r22.2.2.2.2.1), (520, (q_up r22.2.2.2.2.2.1 0 ((r22.2.2.2.2.2.1 0) + (1 : Int32)))), (521, r22.2.2.2.2.2.2.1), (522, r22.2.2.2.2.2.2.2.1), (523, r22.2.2.2.2.2.2.2.2.1), (524, r22.2.2.2.2.2.2.2.2.2.1), (525, r22.2.2.2.2.2.2.2.2.2.2.1), (526, r22.2.2.2.2.2.2.2.2.2.2.2.1), (527, r22.2.2.2.2.2.2.2.2.2.2.2.2)] []) (b := q_kc (t, r, 1, 499, 529, ext, rx, L) I E 62 [some (.ref 520), some (.int (((I 520) 0) - ((I 520) 0) / ((I 499) 4) * ((I 499) 4))), some (.int (0 : Int32)), some (.int (1 : Int32))] [.int ((q_up r22.2.2.2.2.2.1 0 ((r22.2.2.2.2.2.1 0) + (1 : Int32))) 1), .ref 520] [(492, r22.2.1), (509, r22.2.2.1), (510, r22.2.2.2.1), (511, r22.2.2.2.2.1), (520, (q_up r22.2.2.2.2.2.1 0 ((r22.2.2.2.2.2.1 0) + (1 : Int32)))), (521, r22.2.2.2.2.2.2.1), (522, r22.2.2.2.2.2.2.2.1), (523, r22.2.2.2.2.2.2.2.2.1), (524, r22.2.2.2.2.2.2.2.2.2.1), (525, r22.2.2.2.2.2.2.2.2.2.2.1), (526, r22.2.2.2.2.2.2.2.2.2.2.2.1), (527, r22.2.2.2.2.2.2.2.2.2.2.2.2)] []) (P := (0 : Int32) = 0) ok_X14_goOn rfl q_cn (fun h26 => ?_) (fun h26 => ?_)
          · have hf := q_ip h26 hf
            refine q_blk 4 [] (c' := q_kc (t, r, 1, 499, 529, ext, rx, L) I E 70 [some (.ref 520), some (.int (((I 520) 0) - ((I 520) 0) / ((I 499) 4) * ((I 499) 4))), some (.int (0 : Int32)), some (.int (1 : Int32))] [.int (1 : Int32)] [(492, r22.2.1), (509, r22.2.2.1), (510, r22.2.2.2.1), (511, r22.2.2.2.2.1), (520, (q_up (q_up r22.2.2.2.2.2.1 0 ((r22.2.2.2.2.2.1 0) + (1 : Int32))) 1 (((q_up r22.2.2.2.2.2.1 0 ((r22.2.2.2.2.2.1 0) + (1 : Int32))) 1) + (0 : Int32)))), (521, r22.2.2.2.2.2.2.1), (522, r22.2.2.2.2.2.2.2.1), (523, r22.2.2.2.2.2.2.2.2.1), (524, r22.2.2.2.2.2.2.2.2.2.1), (525, r22.2.2.2.2.2.2.2.2.2.2.1), (526, r22.2.2.2.2.2.2.2.2.2.2.2.1), (527, r22.2.2.2.2.2.2.2.2.2.2.2.2)] []) ok_X14_goOn rfl q_cn ?_
            cases hf
            exact q_kri ok_X14_goOn rfl rfl rfl (Nat.le_of_ble_eq_true rfl) (Nat.le_of_ble_eq_true rfl) ⟨rfl, q_hpe (q_pdw [492, 509, 510, 511, 520, 521, 522, 523, 524, 525, 526, 527] rfl rfl) (q_pdw [] rfl rfl)⟩
          · have hf := q_in h26 hf
            refine q_blf 1 [] (a := q_kc (t, r, 1, 499, 529, ext, rx, L) I E 66 [some (.ref 520), some (.int (((I 520) 0) - ((I 520) 0) / ((I 499) 4) * ((I 499) 4))), some (.int (0 : Int32)), some (.int (1 : Int32))] [.int ((q_up r22.2.2.2.2.2.1 0 ((r22.2.2.2.2.2.1 0) + (1 : Int32))) 1), .ref 520] [(492, r22.2.1), (509, r22.2.2.1), (510, r22.2.2.2.1), (511, r22.2.2.2.2.1), (520, (q_up r22.2.2.2.2.2.1 0 ((r22.2.2.2.2.2.1 0) + (1 : Int32)))), (521, r22.2.2.2.2.2.2.1), (522, r22.2.2.2.2.2.2.2.1), (523, r22.2.2.2.2.2.2.2.2.1), (524, r22.2.2.2.2.2.2.2.2.2.1), (525, r22.2.2.2.2.2.2.2.2.2.2.1), (526, r22.2.2.2.2.2.2.2.2.2.2.2.1), (527, r22.2.2.2.2.2.2.2.2.2.2.2.2)] []) (b := q_kc (t, r, 1, 499, 529, ext, rx, L) I E 64 [some (.ref 520), some (.int (((I 520) 0) - ((I 520) 0) / ((I 499) 4) * ((I 499) 4))), some (.int (0 : Int32)), some (.int (1 : Int32))] [.int ((q_up r22.2.2.2.2.2.1 0 ((r22.2.2.2.2.2.1 0) + (1 : Int32))) 1), .ref 520] [(492, r22.2.1), (509, r22.2.2.1), (510, r22.2.2.2.1), (511, r22.2.2.2.2.1), (520, (q_up r22.2.2.2.2.2.1 0 ((r22.2.2.2.2.2.1 0) + (1 : Int32)))), (521, r22.2.2.2.2.2.2.1), (522, r22.2.2.2.2.2.2.2.1), (523, r22.2.2.2.2.2.2.2.2.1), (524, r22.2.2.2.2.2.2.2.2.2.1), (525, r22.2.2.2.2.2.2.2.2.2.2.1), (526, r22.2.2.2.2.2.2.2.2.2.2.2.1), (527, r22.2.2.2.2.2.2.2.2.2.2.2.2)] []) (P := ¬ (1 : Int32) = 0) ok_X14_goOn rfl q_cn (fun h27 => ?_) (fun h27 => ?_)
            · have hf := q_ip h27 hf
              refine q_blk 4 [] (c' := q_kc (t, r, 1, 499, 529, ext, rx, L) I E 70 [some (.ref 520), some (.int (((I 520) 0) - ((I 520) 0) / ((I 499) 4) * ((I 499) 4))), some (.int (0 : Int32)), some (.int (1 : Int32))] [.int (1 : Int32)] [(492, r22.2.1), (509, r22.2.2.1), (510, r22.2.2.2.1), (511, r22.2.2.2.2.1), (520, (q_up (q_up r22.2.2.2.2.2.1 0 ((r22.2.2.2.2.2.1 0) + (1 : Int32))) 1 (((q_up r22.2.2.2.2.2.1 0 ((r22.2.2.2.2.2.1 0) + (1 : Int32))) 1) + (0 : Int32)))), (521, r22.2.2.2.2.2.2.1), (522, r22.2.2.2.2.2.2.2.1), (523, r22.2.2.2.2.2.2.2.2.1), (524, r22.2.2.2.2.2.2.2.2.2.1), (525, r22.2.2.2.2.2.2.2.2.2.2.1), (526, r22.2.2.2.2.2.2.2.2.2.2.2.1), (527, r22.2.2.2.2.2.2.2.2.2.2.2.2)] []) ok_X14_goOn rfl q_cn ?_
              cases hf
              exact q_kri ok_X14_goOn rfl rfl rfl (Nat.le_of_ble_eq_true rfl) (Nat.le_of_ble_eq_true rfl) ⟨rfl, q_hpe (q_pdw [492, 509, 510, 511, 520, 521, 522, 523, 524, 525, 526, 527] rfl rfl) (q_pdw [] rfl rfl)⟩
            · have hf := q_in h27 hf
              refine q_blk 5 [] (c' := q_kc (t, r, 1, 499, 529, ext, rx, L) I E 70 [some (.ref 520), some (.int (((I 520) 0) - ((I 520) 0) / ((I 499) 4) * ((I 499) 4))), some (.int (0 : Int32)), some (.int (1 : Int32))] [.int (1 : Int32)] [(492, r22.2.1), (509, r22.2.2.1), (510, r22.2.2.2.1), (511, r22.2.2.2.2.1), (520, (q_up (q_up r22.2.2.2.2.2.1 0 ((r22.2.2.2.2.2.1 0) + (1 : Int32))) 1 (((q_up r22.2.2.2.2.2.1 0 ((r22.2.2.2.2.2.1 0) + (1 : Int32))) 1) + (1 : Int32)))), (521, r22.2.2.2.2.2.2.1), (522, r22.2.2.2.2.2.2.2.1), (523, r22.2.2.2.2.2.2.2.2.1), (524, r22.2.2.2.2.2.2.2.2.2.1), (525, r22.2.2.2.2.2.2.2.2.2.2.1), (526, r22.2.2.2.2.2.2.2.2.2.2.2.1), (527, r22.2.2.2.2.2.2.2.2.2.2.2.2)] []) ok_X14_goOn rfl q_cn ?_
              cases hf
              exact q_kri ok_X14_goOn rfl rfl rfl (Nat.le_of_ble_eq_true rfl) (Nat.le_of_ble_eq_true rfl) ⟨rfl, q_hpe (q_pdw [492, 509, 510, 511, 520, 521, 522, 523, 524, 525, 526, 527] rfl rfl) (q_pdw [] rfl rfl)⟩
    · have hf := q_in h18 hf
      refine q_blf 4 [] (a := q_kc (t, r, 1, 499, 529, ext, rx, L) I E 49 [some (.ref 520), some (.int (((I 520) 0) - ((I 520) 0) / ((I 499) 4) * ((I 499) 4))), some (.int (1 : Int32)), none] [] [(509, r17.2)] []) (b := q_kc (t, r, 1, 499, 529, ext, rx, L) I E 43 [some (.ref 520), some (.int (((I 520) 0) - ((I 520) 0) / ((I 499) 4) * ((I 499) 4))), some (.int (1 : Int32)), none] [] [(509, r17.2)] []) (P := (1 : Int32) = 0) ok_X14_goOn rfl q_cn (fun h28 => ?_) (fun h28 => ?_)
      · have hf := q_ip h28 hf
        refine q_blf 12 [] (a := q_kc (t, r, 1, 499, 529, ext, rx, L) I E 66 [some (.ref 520), some (.int (((I 520) 0) - ((I 520) 0) / ((I 499) 4) * ((I 499) 4))), some (.int (1 : Int32)), some (.int (0 : Int32))] [.int ((q_up (I 520) 0 (((I 520) 0) + (1 : Int32))) 1), .ref 520] [(509, r17.2), (520, (q_up (I 520) 0 (((I 520) 0) + (1 : Int32))))] []) (b := q_kc (t, r, 1, 499, 529, ext, rx, L) I E 62 [some (.ref 520), some (.int (((I 520) 0) - ((I 520) 0) / ((I 499) 4) * ((I 499) 4))), some (.int (1 : Int32)), some (.int (0 : Int32))] [.int ((q_up (I 520) 0 (((I 520) 0) + (1 : Int32))) 1), .ref 520] [(509, r17.2), (520, (q_up (I 520) 0 (((I 520) 0) + (1 : Int32))))] []) (P := (1 : Int32) = 0) ok_X14_goOn rfl q_cn (fun h29 => ?_) (fun h29 => ?_)
        · have hf := q_ip h29 hf
          refine q_blk 4 [] (c' := q_kc (t, r, 1, 499, 529, ext, rx, L) I E 70 [some (.ref 520), some (.int (((I 520) 0) - ((I 520) 0) / ((I 499) 4) * ((I 499) 4))), some (.int (1 : Int32)), some (.int (0 : Int32))] [.int (0 : Int32)] [(509, r17.2), (520, (q_up (q_up (I 520) 0 (((I 520) 0) + (1 : Int32))) 1 (((q_up (I 520) 0 (((I 520) 0) + (1 : Int32))) 1) + (0 : Int32))))] []) ok_X14_goOn rfl q_cn ?_
          cases hf
          exact q_kri ok_X14_goOn rfl rfl rfl (Nat.le_of_ble_eq_true rfl) (Nat.le_of_ble_eq_true rfl) ⟨rfl, q_hpe (q_pdw [492, 509, 510, 511, 520, 521, 522, 523, 524, 525, 526, 527] rfl rfl) (q_pdw [] rfl rfl)⟩
        · have hf := q_in h29 hf
          refine q_blf 1 [] (a := q_kc (t, r, 1, 499, 529, ext, rx, L) I E 66 [some (.ref 520), some (.int (((I 520) 0) - ((I 520) 0) / ((I 499) 4) * ((I 499) 4))), some (.int (1 : Int32)), some (.int (0 : Int32))] [.int ((q_up (I 520) 0 (((I 520) 0) + (1 : Int32))) 1), .ref 520] [(509, r17.2), (520, (q_up (I 520) 0 (((I 520) 0) + (1 : Int32))))] []) (b := q_kc (t, r, 1, 499, 529, ext, rx, L) I E 64 [some (.ref 520), some (.int (((I 520) 0) - ((I 520) 0) / ((I 499) 4) * ((I 499) 4))), some (.int (1 : Int32)), some (.int (0 : Int32))] [.int ((q_up (I 520) 0 (((I 520) 0) + (1 : Int32))) 1), .ref 520] [(509, r17.2), (520, (q_up (I 520) 0 (((I 520) 0) + (1 : Int32))))] []) (P := ¬ (0 : Int32) = 0) ok_X14_goOn rfl q_cn (fun h30 => ?_) (fun h30 => ?_)
          · have hf := q_ip h30 hf
            refine q_blk 4 [] (c' := q_kc (t, r, 1, 499, 529, ext, rx, L) I E 70 [some (.ref 520), some (.int (((I 520) 0) - ((I 520) 0) / ((I 499) 4) * ((I 499) 4))), some (.int (1 : Int32)), some (.int (0 : Int32))] [.int (0 : Int32)] [(509, r17.2), (520, (q_up (q_up (I 520) 0 (((I 520) 0) + (1 : Int32))) 1 (((q_up (I 520) 0 (((I 520) 0) + (1 : Int32))) 1) + (0 : Int32))))] []) ok_X14_goOn rfl q_cn ?_
            cases hf
            exact q_kri ok_X14_goOn rfl rfl rfl (Nat.le_of_ble_eq_true rfl) (Nat.le_of_ble_eq_true rfl) ⟨rfl, q_hpe (q_pdw [492, 509, 510, 511, 520, 521, 522, 523, 524, 525, 526, 527] rfl rfl) (q_pdw [] rfl rfl)⟩
          · have hf := q_in h30 hf
            refine q_blk 5 [] (c' := q_kc (t, r, 1, 499, 529, ext, rx, L) I E 70 [some (.ref 520), some (.int (((I 520) 0) - ((I 520) 0) / ((I 499) 4) * ((I 499) 4))), some (.int (1 : Int32)), some (.int (0 : Int32))] [.int (0 : Int32)] [(509, r17.2), (520, (q_up (q_up (I 520) 0 (((I 520) 0) + (1 : Int32))) 1 (((q_up (I 520) 0 (((I 520) 0) + (1 : Int32))) 1) + (1 : Int32))))] []) ok_X14_goOn rfl q_cn ?_
            cases hf
            exact q_kri ok_X14_goOn rfl rfl rfl (Nat.le_of_ble_eq_true rfl) (Nat.le_of_ble_eq_true rfl) ⟨rfl, q_hpe (q_pdw [492, 509, 510, 511, 520, 521, 522, 523, 524, 525, 526, 527] rfl rfl) (q_pdw [] rfl rfl)⟩
      · have hf := q_in h28 hf
        refine q_blk 2 [] (c' := q_kc (t, r, 1, 499, 529, ext, rx, L) I E 45 [some (.ref 520), some (.int (((I 520) 0) - ((I 520) 0) / ((I 499) 4) * ((I 499) 4))), some (.int (1 : Int32)), none] [.int (((I 520) 0) - ((I 520) 0) / ((I 499) 4) * ((I 499) 4)), .ref 520] [(509, r17.2)] []) ok_X14_goOn rfl q_cn ?_
        obtain ⟨r31, hr31, hf⟩ := q_bd hf
        refine q_kV (M2 := m_X14_isDone) (As := [.int (((I 520) 0) - ((I 520) 0) / ((I 499) 4) * ((I 499) 4))]) (b := 520) (v2 := some (.int (q_bz r31.1))) ok_X14_goOn ok_X14_isDone cv_X14_isDone (ct_X14_isDone_520 (d := 8) (Nat.le_refl _) hr31) rfl rfl (Or.inl rfl) rfl rfl rfl rfl (Nat.le_trans (Nat.le_of_ble_eq_true rfl) hd) (Nat.le_of_ble_eq_true rfl) (Nat.le_of_ble_eq_true rfl) (Nat.le_of_ble_eq_true rfl) (fun x hx => absurd hx List.not_mem_nil) (q_nmL0 _) (q_nmS0 _) rfl (pos' := 46) (st' := [.int (q_bz r31.1)]) (lI' := [(492, r31.2.1), (509, r31.2.2.1), (510, r31.2.2.2.1), (511, r31.2.2.2.2.1), (520, r31.2.2.2.2.2.1), (521, r31.2.2.2.2.2.2.1), (522, r31.2.2.2.2.2.2.2.1), (523, r31.2.2.2.2.2.2.2.2.1), (524, r31.2.2.2.2.2.2.2.2.2.1), (525, r31.2.2.2.2.2.2.2.2.2.2.1), (526, r31.2.2.2.2.2.2.2.2.2.2.2.1), (527, r31.2.2.2.2.2.2.2.2.2.2.2.2)]) (lE' := []) rfl rfl (q_mgw rfl rfl) rfl ?_
        refine q_blf 0 [] (a := q_kc (t, r, 1, 499, 529, ext, rx, L) I E 49 [some (.ref 520), some (.int (((I 520) 0) - ((I 520) 0) / ((I 499) 4) * ((I 499) 4))), some (.int (1 : Int32)), none] [] [(492, r31.2.1), (509, r31.2.2.1), (510, r31.2.2.2.1), (511, r31.2.2.2.2.1), (520, r31.2.2.2.2.2.1), (521, r31.2.2.2.2.2.2.1), (522, r31.2.2.2.2.2.2.2.1), (523, r31.2.2.2.2.2.2.2.2.1), (524, r31.2.2.2.2.2.2.2.2.2.1), (525, r31.2.2.2.2.2.2.2.2.2.2.1), (526, r31.2.2.2.2.2.2.2.2.2.2.2.1), (527, r31.2.2.2.2.2.2.2.2.2.2.2.2)] []) (b := q_kc (t, r, 1, 499, 529, ext, rx, L) I E 47 [some (.ref 520), some (.int (((I 520) 0) - ((I 520) 0) / ((I 499) 4) * ((I 499) 4))), some (.int (1 : Int32)), none] [] [(492, r31.2.1), (509, r31.2.2.1), (510, r31.2.2.2.1), (511, r31.2.2.2.2.1), (520, r31.2.2.2.2.2.1), (521, r31.2.2.2.2.2.2.1), (522, r31.2.2.2.2.2.2.2.1), (523, r31.2.2.2.2.2.2.2.2.1), (524, r31.2.2.2.2.2.2.2.2.2.1), (525, r31.2.2.2.2.2.2.2.2.2.2.1), (526, r31.2.2.2.2.2.2.2.2.2.2.2.1), (527, r31.2.2.2.2.2.2.2.2.2.2.2.2)] []) (P := (q_bz r31.1) = 0) ok_X14_goOn rfl q_cn (fun h32 => ?_) (fun h32 => ?_)
        · have hf := q_ip h32 hf
          refine q_blf 12 [] (a := q_kc (t, r, 1, 499, 529, ext, rx, L) I E 66 [some (.ref 520), some (.int (((I 520) 0) - ((I 520) 0) / ((I 499) 4) * ((I 499) 4))), some (.int (1 : Int32)), some (.int (0 : Int32))] [.int ((q_up r31.2.2.2.2.2.1 0 ((r31.2.2.2.2.2.1 0) + (1 : Int32))) 1), .ref 520] [(492, r31.2.1), (509, r31.2.2.1), (510, r31.2.2.2.1), (511, r31.2.2.2.2.1), (520, (q_up r31.2.2.2.2.2.1 0 ((r31.2.2.2.2.2.1 0) + (1 : Int32)))), (521, r31.2.2.2.2.2.2.1), (522, r31.2.2.2.2.2.2.2.1), (523, r31.2.2.2.2.2.2.2.2.1), (524, r31.2.2.2.2.2.2.2.2.2.1), (525, r31.2.2.2.2.2.2.2.2.2.2.1), (526, r31.2.2.2.2.2.2.2.2.2.2.2.1), (527, r31.2.2.2.2.2.2.2.2.2.2.2.2)] []) (b := q_kc (t, r, 1, 499, 529, ext, rx, L) I E 62 [some (.ref 520), some (.int (((I 520) 0) - ((I 520) 0) / ((I 499) 4) * ((I 499) 4))), some (.int (1 : Int32)), some (.int (0 : Int32))] [.int ((q_up r31.2.2.2.2.2.1 0 ((r31.2.2.2.2.2.1 0) + (1 : Int32))) 1), .ref 520] [(492, r31.2.1), (509, r31.2.2.1), (510, r31.2.2.2.1), (511, r31.2.2.2.2.1), (520, (q_up r31.2.2.2.2.2.1 0 ((r31.2.2.2.2.2.1 0) + (1 : Int32)))), (521, r31.2.2.2.2.2.2.1), (522, r31.2.2.2.2.2.2.2.1), (523, r31.2.2.2.2.2.2.2.2.1), (524, r31.2.2.2.2.2.2.2.2.2.1), (525, r31.2.2.2.2.2.2.2.2.2.2.1), (526, r31.2.2.2.2.2.2.2.2.2.2.2.1), (527, r31.2.2.2.2.2.2.2.2.2.2.2.2)] []) (P := (1 : Int32) = 0) ok_X14_goOn rfl q_cn (fun h33 => ?_) (fun h33 => ?_)
          · have hf := q_ip h33 hf
            refine q_blk 4 [] (c' := q_kc (t, r, 1, 499, 529, ext, rx, L) I E 70 [some (.ref 520), some (.int (((I 520) 0) - ((I 520) 0) / ((I 499) 4) * ((I 499) 4))), some (.int (1 : Int32)), some (.int (0 : Int32))] [.int (0 : Int32)] [(492, r31.2.1), (509, r31.2.2.1), (510, r31.2.2.2.1), (511, r31.2.2.2.2.1), (520, (q_up (q_up r31.2.2.2.2.2.1 0 ((r31.2.2.2.2.2.1 0) + (1 : Int32))) 1 (((q_up r31.2.2.2.2.2.1 0 ((r31.2.2.2.2.2.1 0) + (1 : Int32))) 1) + (0 : Int32)))), (521, r31.2.2.2.2.2.2.1), (522, r31.2.2.2.2.2.2.2.1), (523, r31.2.2.2.2.2.2.2.2.1), (524, r31.2.2.2.2.2.2.2.2.2.1), (525, r31.2.2.2.2.2.2.2.2.2.2.1), (526, r31.2.2.2.2.2.2.2.2.2.2.2.1), (527, r31.2.2.2.2.2.2.2.2.2.2.2.2)] []) ok_X14_goOn rfl q_cn ?_
            cases hf
            exact q_kri ok_X14_goOn rfl rfl rfl (Nat.le_of_ble_eq_true rfl) (Nat.le_of_ble_eq_true rfl) ⟨rfl, q_hpe (q_pdw [492, 509, 510, 511, 520, 521, 522, 523, 524, 525, 526, 527] rfl rfl) (q_pdw [] rfl rfl)⟩
          · have hf := q_in h33 hf
            refine q_blf 1 [] (a := q_kc (t, r, 1, 499, 529, ext, rx, L) I E 66 [some (.ref 520), some (.int (((I 520) 0) - ((I 520) 0) / ((I 499) 4) * ((I 499) 4))), some (.int (1 : Int32)), some (.int (0 : Int32))] [.int ((q_up r31.2.2.2.2.2.1 0 ((r31.2.2.2.2.2.1 0) + (1 : Int32))) 1), .ref 520] [(492, r31.2.1), (509, r31.2.2.1), (510, r31.2.2.2.1), (511, r31.2.2.2.2.1), (520, (q_up r31.2.2.2.2.2.1 0 ((r31.2.2.2.2.2.1 0) + (1 : Int32)))), (521, r31.2.2.2.2.2.2.1), (522, r31.2.2.2.2.2.2.2.1), (523, r31.2.2.2.2.2.2.2.2.1), (524, r31.2.2.2.2.2.2.2.2.2.1), (525, r31.2.2.2.2.2.2.2.2.2.2.1), (526, r31.2.2.2.2.2.2.2.2.2.2.2.1), (527, r31.2.2.2.2.2.2.2.2.2.2.2.2)] []) (b := q_kc (t, r, 1, 499, 529, ext, rx, L) I E 64 [some (.ref 520), some (.int (((I 520) 0) - ((I 520) 0) / ((I 499) 4) * ((I 499) 4))), some (.int (1 : Int32)), some (.int (0 : Int32))] [.int ((q_up r31.2.2.2.2.2.1 0 ((r31.2.2.2.2.2.1 0) + (1 : Int32))) 1), .ref 520] [(492, r31.2.1), (509, r31.2.2.1), (510, r31.2.2.2.1), (511, r31.2.2.2.2.1), (520, (q_up r31.2.2.2.2.2.1 0 ((r31.2.2.2.2.2.1 0) + (1 : Int32)))), (521, r31.2.2.2.2.2.2.1), (522, r31.2.2.2.2.2.2.2.1), (523, r31.2.2.2.2.2.2.2.2.1), (524, r31.2.2.2.2.2.2.2.2.2.1), (525, r31.2.2.2.2.2.2.2.2.2.2.1), (526, r31.2.2.2.2.2.2.2.2.2.2.2.1), (527, r31.2.2.2.2.2.2.2.2.2.2.2.2)] []) (P := ¬ (0 : Int32) = 0) ok_X14_goOn rfl q_cn (fun h34 => ?_) (fun h34 => ?_)
            · have hf := q_ip h34 hf
              refine q_blk 4 [] (c' := q_kc (t, r, 1, 499, 529, ext, rx, L) I E 70 [some (.ref 520), some (.int (((I 520) 0) - ((I 520) 0) / ((I 499) 4) * ((I 499) 4))), some (.int (1 : Int32)), some (.int (0 : Int32))] [.int (0 : Int32)] [(492, r31.2.1), (509, r31.2.2.1), (510, r31.2.2.2.1), (511, r31.2.2.2.2.1), (520, (q_up (q_up r31.2.2.2.2.2.1 0 ((r31.2.2.2.2.2.1 0) + (1 : Int32))) 1 (((q_up r31.2.2.2.2.2.1 0 ((r31.2.2.2.2.2.1 0) + (1 : Int32))) 1) + (0 : Int32)))), (521, r31.2.2.2.2.2.2.1), (522, r31.2.2.2.2.2.2.2.1), (523, r31.2.2.2.2.2.2.2.2.1), (524, r31.2.2.2.2.2.2.2.2.2.1), (525, r31.2.2.2.2.2.2.2.2.2.2.1), (526, r31.2.2.2.2.2.2.2.2.2.2.2.1), (527, r31.2.2.2.2.2.2.2.2.2.2.2.2)] []) ok_X14_goOn rfl q_cn ?_
              cases hf
              exact q_kri ok_X14_goOn rfl rfl rfl (Nat.le_of_ble_eq_true rfl) (Nat.le_of_ble_eq_true rfl) ⟨rfl, q_hpe (q_pdw [492, 509, 510, 511, 520, 521, 522, 523, 524, 525, 526, 527] rfl rfl) (q_pdw [] rfl rfl)⟩
            · have hf := q_in h34 hf
              refine q_blk 5 [] (c' := q_kc (t, r, 1, 499, 529, ext, rx, L) I E 70 [some (.ref 520), some (.int (((I 520) 0) - ((I 520) 0) / ((I 499) 4) * ((I 499) 4))), some (.int (1 : Int32)), some (.int (0 : Int32))] [.int (0 : Int32)] [(492, r31.2.1), (509, r31.2.2.1), (510, r31.2.2.2.1), (511, r31.2.2.2.2.1), (520, (q_up (q_up r31.2.2.2.2.2.1 0 ((r31.2.2.2.2.2.1 0) + (1 : Int32))) 1 (((q_up r31.2.2.2.2.2.1 0 ((r31.2.2.2.2.2.1 0) + (1 : Int32))) 1) + (1 : Int32)))), (521, r31.2.2.2.2.2.2.1), (522, r31.2.2.2.2.2.2.2.1), (523, r31.2.2.2.2.2.2.2.2.1), (524, r31.2.2.2.2.2.2.2.2.2.1), (525, r31.2.2.2.2.2.2.2.2.2.2.1), (526, r31.2.2.2.2.2.2.2.2.2.2.2.1), (527, r31.2.2.2.2.2.2.2.2.2.2.2.2)] []) ok_X14_goOn rfl q_cn ?_
              cases hf
              exact q_kri ok_X14_goOn rfl rfl rfl (Nat.le_of_ble_eq_true rfl) (Nat.le_of_ble_eq_true rfl) ⟨rfl, q_hpe (q_pdw [492, 509, 510, 511, 520, 521, 522, 523, 524, 525, 526, 527] rfl rfl) (q_pdw [] rfl rfl)⟩
        · have hf := q_in h32 hf
          refine q_blf 13 [] (a := q_kc (t, r, 1, 499, 529, ext, rx, L) I E 66 [some (.ref 520), some (.int (((I 520) 0) - ((I 520) 0) / ((I 499) 4) * ((I 499) 4))), some (.int (1 : Int32)), some (.int (1 : Int32))] [.int ((q_up r31.2.2.2.2.2.1 0 ((r31.2.2.2.2.2.1 0) + (1 : Int32))) 1), .ref 520] [(492, r31.2.1), (509, r31.2.2.1), (510, r31.2.2.2.1), (511, r31.2.2.2.2.1), (520, (q_up r31.2.2.2.2.2.1 0 ((r31.2.2.2.2.2.1 0) + (1 : Int32)))), (521, r31.2.2.2.2.2.2.1), (522, r31.2.2.2.2.2.2.2.1), (523, r31.2.2.2.2.2.2.2.2.1), (524, r31.2.2.2.2.2.2.2.2.2.1), (525, r31.2.2.2.2.2.2.2.2.2.2.1), (526, r31.2.2.2.2.2.2.2.2.2.2.2.1), (527, r31.2.2.2.2.2.2.2.2.2.2.2.2)] []) (b := q_kc (t, r, 1, 499, 529, ext, rx, L) I E 62 [some (.ref 520), some (.int (((I 520) 0) - ((I 520) 0) / ((I 499) 4) * ((I 499) 4))), some (.int (1 : Int32)), some (.int (1 : Int32))] [.int ((q_up r31.2.2.2.2.2.1 0 ((r31.2.2.2.2.2.1 0) + (1 : Int32))) 1), .ref 520] [(492, r31.2.1), (509, r31.2.2.1), (510, r31.2.2.2.1), (511, r31.2.2.2.2.1), (520, (q_up r31.2.2.2.2.2.1 0 ((r31.2.2.2.2.2.1 0) + (1 : Int32)))), (521, r31.2.2.2.2.2.2.1), (522, r31.2.2.2.2.2.2.2.1), (523, r31.2.2.2.2.2.2.2.2.1), (524, r31.2.2.2.2.2.2.2.2.2.1), (525, r31.2.2.2.2.2.2.2.2.2.2.1), (526, r31.2.2.2.2.2.2.2.2.2.2.2.1), (527, r31.2.2.2.2.2.2.2.2.2.2.2.2)] []) (P := (1 : Int32) = 0) ok_X14_goOn rfl q_cn (fun h35 => ?_) (fun h35 => ?_)
          · have hf := q_ip h35 hf
            refine q_blk 4 [] (c' := q_kc (t, r, 1, 499, 529, ext, rx, L) I E 70 [some (.ref 520), some (.int (((I 520) 0) - ((I 520) 0) / ((I 499) 4) * ((I 499) 4))), some (.int (1 : Int32)), some (.int (1 : Int32))] [.int (1 : Int32)] [(492, r31.2.1), (509, r31.2.2.1), (510, r31.2.2.2.1), (511, r31.2.2.2.2.1), (520, (q_up (q_up r31.2.2.2.2.2.1 0 ((r31.2.2.2.2.2.1 0) + (1 : Int32))) 1 (((q_up r31.2.2.2.2.2.1 0 ((r31.2.2.2.2.2.1 0) + (1 : Int32))) 1) + (0 : Int32)))), (521, r31.2.2.2.2.2.2.1), (522, r31.2.2.2.2.2.2.2.1), (523, r31.2.2.2.2.2.2.2.2.1), (524, r31.2.2.2.2.2.2.2.2.2.1), (525, r31.2.2.2.2.2.2.2.2.2.2.1), (526, r31.2.2.2.2.2.2.2.2.2.2.2.1), (527, r31.2.2.2.2.2.2.2.2.2.2.2.2)] []) ok_X14_goOn rfl q_cn ?_
            cases hf
            exact q_kri ok_X14_goOn rfl rfl rfl (Nat.le_of_ble_eq_true rfl) (Nat.le_of_ble_eq_true rfl) ⟨rfl, q_hpe (q_pdw [492, 509, 510, 511, 520, 521, 522, 523, 524, 525, 526, 527] rfl rfl) (q_pdw [] rfl rfl)⟩
          · have hf := q_in h35 hf
            refine q_blf 1 [] (a := q_kc (t, r, 1, 499, 529, ext, rx, L) I E 66 [some (.ref 520), some (.int (((I 520) 0) - ((I 520) 0) / ((I 499) 4) * ((I 499) 4))), some (.int (1 : Int32)), some (.int (1 : Int32))] [.int ((q_up r31.2.2.2.2.2.1 0 ((r31.2.2.2.2.2.1 0) + (1 : Int32))) 1), .ref 520] [(492, r31.2.1), (509, r31.2.2.1), (510, r31.2.2.2.1), (511, r31.2.2.2.2.1), (520, (q_up r31.2.2.2.2.2.1 0 ((r31.2.2.2.2.2.1 0) + (1 : Int32)))), (521, r31.2.2.2.2.2.2.1), (522, r31.2.2.2.2.2.2.2.1), (523, r31.2.2.2.2.2.2.2.2.1), (524, r31.2.2.2.2.2.2.2.2.2.1), (525, r31.2.2.2.2.2.2.2.2.2.2.1), (526, r31.2.2.2.2.2.2.2.2.2.2.2.1), (527, r31.2.2.2.2.2.2.2.2.2.2.2.2)] []) (b := q_kc (t, r, 1, 499, 529, ext, rx, L) I E 64 [some (.ref 520), some (.int (((I 520) 0) - ((I 520) 0) / ((I 499) 4) * ((I 499) 4))), some (.int (1 : Int32)), some (.int (1 : Int32))] [.int ((q_up r31.2.2.2.2.2.1 0 ((r31.2.2.2.2.2.1 0) + (1 : Int32))) 1), .ref 520] [(492, r31.2.1), (509, r31.2.2.1), (510, r31.2.2.2.1), (511, r31.2.2.2.2.1), (520, (q_up r31.2.2.2.2.2.1 0 ((r31.2.2.2.2.2.1 0) + (1 : Int32)))), (521, r31.2.2.2.2.2.2.1), (522, r31.2.2.2.2.2.2.2.1), (523, r31.2.2.2.2.2.2.2.2.1), (524, r31.2.2.2.2.2.2.2.2.2.1), (525, r31.2.2.2.2.2.2.2.2.2.2.1), (526, r31.2.2.2.2.2.2.2.2.2.2.2.1), (527, r31.2.2.2.2.2.2.2.2.2.2.2.2)] []) (P := ¬ (1 : Int32) = 0) ok_X14_goOn rfl q_cn (fun h36 => ?_) (fun h36 => ?_)
            · have hf := q_ip h36 hf
              refine q_blk 4 [] (c' := q_kc (t, r, 1, 499, 529, ext, rx, L) I E 70 [some (.ref 520), some (.int (((I 520) 0) - ((I 520) 0) / ((I 499) 4) * ((I 499) 4))), some (.int (1 : Int32)), some (.int (1 : Int32))] [.int (1 : Int32)] [(492, r31.2.1), (509, r31.2.2.1), (510, r31.2.2.2.1), (511, r31.2.2.2.2.1), (520, (q_up (q_up r31.2.2.2.2.2.1 0 ((r31.2.2.2.2.2.1 0) + (1 : Int32))) 1 (((q_up r31.2.2.2.2.2.1 0 ((r31.2.2.2.2.2.1 0) + (1 : Int32))) 1) + (0 : Int32)))), (521, r31.2.2.2.2.2.2.1), (522, r31.2.2.2.2.2.2.2.1), (523, r31.2.2.2.2.2.2.2.2.1), (524, r31.2.2.2.2.2.2.2.2.2.1), (525, r31.2.2.2.2.2.2.2.2.2.2.1), (526, r31.2.2.2.2.2.2.2.2.2.2.2.1), (527, r31.2.2.2.2.2.2.2.2.2.2.2.2)] []) ok_X14_goOn rfl q_cn ?_
              cases hf
              exact q_kri ok_X14_goOn rfl rfl rfl (Nat.le_of_ble_eq_true rfl) (Nat.le_of_ble_eq_true rfl) ⟨rfl, q_hpe (q_pdw [492, 509, 510, 511, 520, 521, 522, 523, 524, 525, 526, 527] rfl rfl) (q_pdw [] rfl rfl)⟩
            · have hf := q_in h36 hf
              refine q_blk 5 [] (c' := q_kc (t, r, 1, 499, 529, ext, rx, L) I E 70 [some (.ref 520), some (.int (((I 520) 0) - ((I 520) 0) / ((I 499) 4) * ((I 499) 4))), some (.int (1 : Int32)), some (.int (1 : Int32))] [.int (1 : Int32)] [(492, r31.2.1), (509, r31.2.2.1), (510, r31.2.2.2.1), (511, r31.2.2.2.2.1), (520, (q_up (q_up r31.2.2.2.2.2.1 0 ((r31.2.2.2.2.2.1 0) + (1 : Int32))) 1 (((q_up r31.2.2.2.2.2.1 0 ((r31.2.2.2.2.2.1 0) + (1 : Int32))) 1) + (1 : Int32)))), (521, r31.2.2.2.2.2.2.1), (522, r31.2.2.2.2.2.2.2.1), (523, r31.2.2.2.2.2.2.2.2.1), (524, r31.2.2.2.2.2.2.2.2.2.1), (525, r31.2.2.2.2.2.2.2.2.2.2.1), (526, r31.2.2.2.2.2.2.2.2.2.2.2.1), (527, r31.2.2.2.2.2.2.2.2.2.2.2.2)] []) ok_X14_goOn rfl q_cn ?_
              cases hf
              exact q_kri ok_X14_goOn rfl rfl rfl (Nat.le_of_ble_eq_true rfl) (Nat.le_of_ble_eq_true rfl) ⟨rfl, q_hpe (q_pdw [492, 509, 510, 511, 520, 521, 522, 523, 524, 525, 526, 527] rfl rfl) (q_pdw [] rfl rfl)⟩
