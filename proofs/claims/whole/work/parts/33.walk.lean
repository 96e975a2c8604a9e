set_option maxHeartbeats 4000000 in
theorem lp_X11_digitCount_L2_452 {g : q_G} {d mc ms : Nat} {h0 : q_H} {Q : (Option Value ⊕ String) → q_H → Prop} {k n : Nat} {t : Nat} {r : Nat} {m : Nat} {z : Nat} {N : Nat} {ext : Nat → q_Sh} {rx : Nat → Nat → Option Nat} {L : Nat → Nat → Int64} (hd : 2 ≤ d) (hk : k ≤ mc) (hn : n ≤ ms)  {v1 : Int32} : ∀ (fu : Nat) {I : Nat → Nat → Int32} {E : Nat → Nat → Option Nat} {v2 : Int32} {r0 : Int32} (hf : f_X11_digitCount_L2 (I 401) (I 452) fu v2 = some r0) (hK0 : q_J g m_X11_digitCount d mc ms h0 [] Q k n (q_kc (t, r, m, z, N, ext, rx, L) I E 13 [none, some (.int v1), some (.int r0)] [] [] [])), q_J g m_X11_digitCount d mc ms h0 [] Q k n (2, [some (.ref 452), some (.int v1), some (.int v2)], [], q_hp (t, r, m, z, N, ext, rx, L) I E) := by
  intro fu
  induction fu with
  | zero =>
    intro I E v2 r0 hf hK0
    rw [f_X11_digitCount_L2] at hf
    cases hf
  | succ fu ih =>
    intro I E v2 r0 hf hK0
    rw [f_X11_digitCount_L2] at hf
    change q_J g m_X11_digitCount d mc ms h0 [] Q k n (q_kc (t, r, m, z, N, ext, rx, L) I E 2 [some (.ref 452), some (.int v1), some (.int v2)] [] [] [])
    refine q_blf 3 [] (a := q_kc (t, r, m, z, N, ext, rx, L) I E 13 [some (.ref 452), some (.int v1), some (.int v2)] [] [] []) (b := q_kc (t, r, m, z, N, ext, rx, L) I E 6 [some (.ref 452), some (.int v1), some (.int v2)] [] [] []) (P := ((I 452) 5) ≤ v2) ok_X11_digitCount rfl q_cn (fun h1 => ?_) (fun h1 => ?_)
    · have hf := q_ip h1 hf
      refine q_less (ls' := [none, some (.int v1), some (.int v2)]) (q_sb1 (q_sb2 (q_sb2 q_sb0))) ?_
      cases hf
      exact q_Jpad [] [] rfl rfl hK0
    · have hf := q_in h1 hf
      refine q_blk 2 [] (c' := q_kc (t, r, m, z, N, ext, rx, L) I E 8 [some (.ref 452), some (.int v1), some (.int v2)] [.int v2, .ref 452] [] []) ok_X11_digitCount rfl q_cn ?_
      obtain ⟨r2, hr2, hf⟩ := q_bd hf
      refine q_kV (M2 := m_X11_at) (As := [.int v2]) (b := 452) (v2 := some (.int r2)) ok_X11_digitCount ok_X11_at cv_X11_at (ct_X11_at_452 (d := 1) (Nat.le_refl _) hr2) rfl rfl (Or.inl rfl) rfl rfl rfl rfl (Nat.le_trans (Nat.le_of_ble_eq_true rfl) hd) hk hn (Nat.le_of_ble_eq_true rfl) (fun x hx => absurd hx List.not_mem_nil) (q_nmL0 _) (q_nmS0 _) rfl (pos' := 9) (st' := [.int r2]) (lI' := []) (lE' := []) rfl rfl rfl rfl ?_
      obtain ⟨r3, hr3, hf⟩ := q_bd hf
      refine q_kS (M2 := m_X11_isDigit) (As := [.int r2]) (v2 := some (.int (q_bz r3))) ok_X11_digitCount ok_X11_isDigit cs_X11_isDigit (ct_X11_isDigit (d := 1) (Nat.le_refl _) hr3) rfl rfl (Or.inl rfl) (Nat.le_trans (Nat.le_of_ble_eq_true rfl) hd) hk hn (Nat.le_of_ble_eq_true rfl) (fun x hx => absurd hx List.not_mem_nil) (q_nmL0 _) (q_nmS0 _) rfl (pos' := 10) (st' := [.int (q_bz r3)]) (lI' := []) (lE' := []) rfl rfl rfl rfl ?_
      refine q_blf 0 [] (a := q_kc (t, r, m, z, N, ext, rx, L) I E 13 [some (.ref 452), some (.int v1), some (.int v2)] [] [] []) (b := q_kc (t, r, m, z, N, ext, rx, L) I E 11 [some (.ref 452), some (.int v1), some (.int v2)] [] [] []) (P := (q_bz r3) = 0) ok_X11_digitCount rfl q_cn (fun h4 => ?_) (fun h4 => ?_)
      · have hf := q_ip h4 hf
        refine q_less (ls' := [none, some (.int v1), some (.int v2)]) (q_sb1 (q_sb2 (q_sb2 q_sb0))) ?_
        cases hf
        exact q_Jpad [] [] rfl rfl hK0
      · have hf := q_in h4 hf
        refine q_blk 2 [] (c' := q_kc (t, r, m, z, N, ext, rx, L) I E 2 [some (.ref 452), some (.int v1), some (.int (v2 + 1))] [] [] []) ok_X11_digitCount rfl q_cn ?_
        exact ih (I := q_ws I []) (E := q_ws E []) hf (q_Jmrg rfl rfl hK0)
set_option maxHeartbeats 4000000 in
theorem ct_X11_digitCount_452 {g : q_G} {t : Nat} {r : Nat} {m : Nat} {z : Nat} {N : Nat} {ext : Nat → q_Sh} {rx : Nat → Nat → Option Nat} {L : Nat → Nat → Int64} {d : Nat} (hd : 2 ≤ d)  {I : Nat → Nat → Int32} {E : Nat → Nat → Option Nat} {x1 : Int32} {r0 : Int32} (hf : f_X11_digitCount (I 401) (I 452) x1 = some r0) : q_Ct g m_X11_digitCount d 0 0 [] [.ref 452, .int x1] (q_hp (t, r, m, z, N, ext, rx, L) I E) (fun o h' => o = .inl (some (.int r0)) ∧ h' = q_hp (t, r, m, z, N, ext, rx, L) (q_ws I []) (q_ws E [])) := by
  rw [f_X11_digitCount] at hf
  refine q_Ct_of ok_X11_digitCount (Nat.le_of_ble_eq_true rfl) ?_ _ rfl rfl
  change q_J g m_X11_digitCount d 0 0 _ [] _ 0 0 (q_kc (t, r, m, z, N, ext, rx, L) I E 0 [some (.ref 452), some (.int x1), none] [] [] [])
  refine q_blk 2 [] (c' := q_kc (t, r, m, z, N, ext, rx, L) I E 2 [some (.ref 452), some (.int x1), some (.int x1)] [] [] []) ok_X11_digitCount rfl q_cn ?_
  obtain ⟨r5, hr5, hf⟩ := q_bd hf
  refine lp_X11_digitCount_L2_452 (I := q_ws I []) (E := q_ws E []) hd (Nat.le_of_ble_eq_true rfl) (Nat.le_of_ble_eq_true rfl) 4096 hr5 ?_
  refine q_Jmrg (lI' := []) (lE' := []) rfl rfl ?_
  refine q_blk 3 [] (c' := q_kc (t, r, m, z, N, ext, rx, L) I E 16 [none, some (.int x1), some (.int r5)] [.int (r5 - x1)] [] []) ok_X11_digitCount rfl q_cn ?_
  cases hf
  exact q_kri ok_X11_digitCount rfl rfl rfl (Nat.le_of_ble_eq_true rfl) (Nat.le_of_ble_eq_true rfl) ⟨rfl, q_hpe (q_fin [] rfl) (q_fin [] rfl)⟩
set_option maxHeartbeats 4000000 in
theorem lp_X11_isWritten_L2_452 {g : q_G} {d mc ms : Nat} {h0 : q_H} {Q : (Option Value ⊕ String) → q_H → Prop} {k n : Nat} {t : Nat} {r : Nat} {m : Nat} {z : Nat} {N : Nat} {ext : Nat → q_Sh} {rx : Nat → Nat → Option Nat} {L : Nat → Nat → Int64} (hd : 9 ≤ d) (hk : k ≤ mc) (hn : n ≤ ms)  {v1 : Nat} {v2 : Int32} (hl1 : q_isStr v1 = true ∧ v1 < 200) : ∀ (fu : Nat) {I : Nat → Nat → Int32} {E : Nat → Nat → Option Nat} {v3 : Int32} {r0 : Nat} (hf : f_X11_isWritten_L2 (I 401) (I 452) v1 v2 fu v3 = some r0) (hK0 : r0.1 = 0 → q_J g m_X11_isWritten d mc ms h0 [] Q k n (q_kc (t, r, m, z, N, ext, rx, L) I E 19 [none, none, none, none] [] [] [])) (hK1 : r0.1 = 1 → q_J g m_X11_isWritten d mc ms h0 [] Q k n (q_kc (t, r, m, z, N, ext, rx, L) I E 15 [none, none, none, none] [] [] [])), q_J g m_X11_isWritten d mc ms h0 [] Q k n (2, [some (.ref 452), some (.ref v1), some (.int v2), some (.int v3)], [], q_hp (t, r, m, z, N, ext, rx, L) I E) := by
  intro fu
  induction fu with
  | zero =>
    intro I E v3 r0 hf hK0 hK1
    rw [f_X11_isWritten_L2] at hf
    cases hf
  | succ fu ih =>
    intro I E v3 r0 hf hK0 hK1
    rw [f_X11_isWritten_L2] at hf
    change q_J g m_X11_isWritten d mc ms h0 [] Q k n (q_kc (t, r, m, z, N, ext, rx, L) I E 2 [some (.ref 452), some (.ref v1), some (.int v2), some (.int v3)] [] [] [])
    refine q_blk 2 [] (c' := q_kc (t, r, m, z, N, ext, rx, L) I E 4 [some (.ref 452), some (.ref v1), some (.int v2), some (.int v3)] [.ref v1, .int v3] [] []) ok_X11_isWritten rfl q_cn ?_
    refine q_kslen (pos' := 5) ok_X11_isWritten rfl (Or.inl rfl) hl1 (Nat.le_trans (Nat.le_of_ble_eq_true rfl) hd) hk hn rfl ?_
    refine q_blf 0 [] (a := q_kc (t, r, m, z, N, ext, rx, L) I E 19 [some (.ref 452), some (.ref v1), some (.int v2), some (.int v3)] [] [] []) (b := q_kc (t, r, m, z, N, ext, rx, L) I E 6 [some (.ref 452), some (.ref v1), some (.int v2), some (.int v3)] [] [] []) (P := (nI (q_str v1).length) ≤ v3) ok_X11_isWritten rfl q_cn (fun h1 => ?_) (fun h1 => ?_)
    · have hf := q_ip h1 hf
      refine q_less (ls' := [none, none, none, none]) (q_sb1 (q_sb1 (q_sb1 (q_sb1 q_sb0)))) ?_
      cases hf
      exact q_Jpad [] [] rfl rfl (hK0 rfl)
    · have hf := q_in h1 hf
      refine q_blk 4 [] (c' := q_kc (t, r, m, z, N, ext, rx, L) I E 10 [some (.ref 452), some (.ref v1), some (.int v2), some (.int v3)] [.int (v2 + v3), .ref 452] [] []) ok_X11_isWritten rfl q_cn ?_
      obtain ⟨r2, hr2, hf⟩ := q_bd hf
      refine q_kV (M2 := m_X11_at) (As := [.int (v2 + v3)]) (b := 452) (v2 := some (.int r2)) ok_X11_isWritten ok_X11_at cv_X11_at (ct_X11_at_452 (d := 1) (Nat.le_refl _) hr2) rfl rfl (Or.inl rfl) rfl rfl rfl rfl (Nat.le_trans (Nat.le_of_ble_eq_true rfl) hd) hk hn (Nat.le_of_ble_eq_true rfl) (fun x hx => absurd hx List.not_mem_nil) (q_nmL0 _) (q_nmS0 _) rfl (pos' := 11) (st' := [.int r2]) (lI' := []) (lE' := []) rfl rfl rfl rfl ?_
      refine q_blk 2 [] (c' := q_kc (t, r, m, z, N, ext, rx, L) I E 13 [some (.ref 452), some (.ref v1), some (.int v2), some (.int v3)] [.int v3, .ref v1, .int r2] [] []) ok_X11_isWritten rfl q_cn ?_
      obtain ⟨j3, hj3, hf⟩ := q_bd hf
      refine q_kschr (pos' := 14) ok_X11_isWritten rfl (Or.inl rfl) hl1 hj3 (Nat.le_trans (Nat.le_of_ble_eq_true rfl) hd) hk hn rfl ?_
      refine q_blf 0 [] (a := q_kc (t, r, m, z, N, ext, rx, L) I E 17 [some (.ref 452), some (.ref v1), some (.int v2), some (.int v3)] [] [] []) (b := q_kc (t, r, m, z, N, ext, rx, L) I E 15 [some (.ref 452), some (.ref v1), some (.int v2), some (.int v3)] [] [] []) (P := r2 = ((q_str v1).getD j3 0)) ok_X11_isWritten rfl q_cn (fun h4 => ?_) (fun h4 => ?_)
      · have hf := q_ip h4 hf
        refine q_blk 2 [] (c' := q_kc (t, r, m, z, N, ext, rx, L) I E 2 [some (.ref 452), some (.ref v1), some (.int v2), some (.int (v3 + 1))] [] [] []) ok_X11_isWritten rfl q_cn ?_
        exact ih (I := q_ws I []) (E := q_ws E []) hf (fun hz => q_Jmrg rfl rfl (hK0 hz)) (fun hz => q_Jmrg rfl rfl (hK1 hz))
      · have hf := q_in h4 hf
        refine q_less (ls' := [none, none, none, none]) (q_sb1 (q_sb1 (q_sb1 (q_sb1 q_sb0)))) ?_
        cases hf
        exact q_Jpad [] [] rfl rfl (hK1 rfl)
set_option maxHeartbeats 4000000 in
theorem ct_X11_isWritten_452 {g : q_G} {t : Nat} {r : Nat} {m : Nat} {z : Nat} {N : Nat} {ext : Nat → q_Sh} {rx : Nat → Nat → Option Nat} {L : Nat → Nat → Int64} {d : Nat} (hd : 9 ≤ d)  {I : Nat → Nat → Int32} {E : Nat → Nat → Option Nat} {x1 : Nat} {x2 : Int32} {r0 : Bool} (hf : f_X11_isWritten (I 401) (I 452) x1 x2 = some r0) : q_Ct g m_X11_isWritten d 0 0 [] [.ref 452, .ref x1, .int x2] (q_hp (t, r, m, z, N, ext, rx, L) I E) (fun o h' => o = .inl (some (.int (q_bz r0))) ∧ h' = q_hp (t, r, m, z, N, ext, rx, L) (q_ws I []) (q_ws E [])) := by
  rw [f_X11_isWritten] at hf
  refine q_Ct_of ok_X11_isWritten (Nat.le_of_ble_eq_true rfl) ?_ _ rfl rfl
  change q_J g m_X11_isWritten d 0 0 _ [] _ 0 0 (q_kc (t, r, m, z, N, ext, rx, L) I E 0 [some (.ref 452), some (.ref x1), some (.int x2), none] [] [] [])
  obtain ⟨ug1, hg1, hf⟩ := q_bd hf
  refine q_blk 2 [] (c' := q_kc (t, r, m, z, N, ext, rx, L) I E 2 [some (.ref 452), some (.ref x1), some (.int x2), some (.int (0 : Int32))] [] [] []) ok_X11_isWritten rfl q_cn ?_
  obtain ⟨r5, hr5, hf⟩ := q_bd hf
  refine lp_X11_isWritten_L2_452 (I := q_ws I []) (E := q_ws E []) hd (Nat.le_of_ble_eq_true rfl) (Nat.le_of_ble_eq_true rfl) (q_sok hg1) 4096 hr5 ?_ ?_
  · intro hz0
    have hf := q_ip hz0 hf
    refine q_Jmrg (lI' := []) (lE' := []) rfl rfl ?_
    refine q_blk 1 [] (c' := q_kc (t, r, m, z, N, ext, rx, L) I E 20 [none, none, none, none] [.int (1 : Int32)] [] []) ok_X11_isWritten rfl q_cn ?_
    cases hf
    exact q_kri ok_X11_isWritten rfl rfl rfl (Nat.le_of_ble_eq_true rfl) (Nat.le_of_ble_eq_true rfl) ⟨rfl, q_hpe (q_fin [] rfl) (q_fin [] rfl)⟩
  · intro hz1
    have hf := q_in (fun h9 => absurd (hz1.symm.trans h9) (by decide)) hf
    refine q_Jmrg (lI' := []) (lE' := []) rfl rfl ?_
    refine q_blk 1 [] (c' := q_kc (t, r, m, z, N, ext, rx, L) I E 16 [none, none, none, none] [.int (0 : Int32)] [] []) ok_X11_isWritten rfl q_cn ?_
    cases hf
    exact q_kri ok_X11_isWritten rfl rfl rfl (Nat.le_of_ble_eq_true rfl) (Nat.le_of_ble_eq_true rfl) ⟨rfl, q_hpe (q_fin [] rfl) (q_fin [] rfl)⟩
set_option maxHeartbeats 4000000 in
theorem lp_X11_writtenSign_L7_452 {g : q_G} {d mc ms : Nat} {h0 : q_H} {Q : (Option Value ⊕ String) → q_H → Prop} {k n : Nat} {t : Nat} {r : Nat} {m : Nat} {z : Nat} {N : Nat} {ext : Nat → q_Sh} {rx : Nat → Nat → Option Nat} {L : Nat → Nat → Int64} (hd : 10 ≤ d) (hk : k ≤ mc) (hn : n ≤ ms)  {v1 : Int32} {v2 : Int32} {v4 : Int32} : ∀ (fu : Nat) {I : Nat → Nat → Int32} {E : Nat → Nat → Option Nat} {v5 : Int32} {r0 : Nat × Nat} (hf : f_X11_writtenSign_L7 (I 401) (I 452) v1 v2 v4 fu v5 = some r0) (hK0 : r0.1 = 0 → q_J g m_X11_writtenSign d mc ms h0 [] Q k n (q_kc (t, r, m, z, N, ext, rx, L) I E 29 [none, none, none, none, none, none, none] [] [] [])) (hK1 : r0.1 = 1 → q_J g m_X11_writtenSign d mc ms h0 [] Q k n (q_kc (t, r, m, z, N, ext, rx, L) I E 25 [none, none, none, none, none, none, some (.ref r0.2)] [] [] [])), q_J g m_X11_writtenSign d mc ms h0 [] Q k n (7, [some (.ref 452), some (.int v1), some (.int v2), some (.ref 49), some (.int v4), some (.int v5), none], [], q_hp (t, r, m, z, N, ext, rx, L) I E) := by
  intro fu
  induction fu with
  | zero =>
    intro I E v5 r0 hf hK0 hK1
    rw [f_X11_writtenSign_L7] at hf
    cases hf
  | succ fu ih =>
    intro I E v5 r0 hf hK0 hK1
    rw [f_X11_writtenSign_L7] at hf
    change q_J g m_X11_writtenSign d mc ms h0 [] Q k n (q_kc (t, r, m, z, N, ext, rx, L) I E 7 [some (.ref 452), some (.int v1), some (.int v2), some (.ref 49), some (.int v4), some (.int v5), none] [] [] [])
    refine q_blf 2 [] (a := q_kc (t, r, m, z, N, ext, rx, L) I E 29 [some (.ref 452), some (.int v1), some (.int v2), some (.ref 49), some (.int v4), some (.int v5), none] [] [] []) (b := q_kc (t, r, m, z, N, ext, rx, L) I E 10 [some (.ref 452), some (.int v1), some (.int v2), some (.ref 49), some (.int v4), some (.int v5), none] [] [] []) (P := v4 ≤ v5) ok_X11_writtenSign rfl q_cn (fun h1 => ?_) (fun h1 => ?_)
    · have hf := q_ip h1 hf
      refine q_less (ls' := [none, none, none, none, none, none, none]) (q_sb1 (q_sb1 (q_sb1 (q_sb1 (q_sb1 (q_sb1 (q_sb1 q_sb0))))))) ?_
      cases hf
      exact q_Jpad [] [] rfl rfl (hK0 rfl)
    · have hf := q_in h1 hf
      obtain ⟨j2, hj2, hf⟩ := q_bd hf
      refine q_blk 5 [j2] (c' := q_kc (t, r, m, z, N, ext, rx, L) I E 15 [some (.ref 452), some (.int v1), some (.int v2), some (.ref 49), some (.int v4), some (.int v5), some (.ref j2)] [.ref j2] [] []) ok_X11_writtenSign rfl (q_cc hj2 q_cn) ?_
      refine q_kxt (pos' := 16) ok_X11_writtenSign rfl (q_ix_lt hj2) (Or.inl rfl) rfl ?_
      refine q_kslen (pos' := 17) ok_X11_writtenSign rfl (Or.inl rfl) (q_isSs (q_ix_lt hj2)) (Nat.le_trans (Nat.le_of_ble_eq_true rfl) hd) hk hn rfl ?_
      refine q_blf 1 [] (a := q_kc (t, r, m, z, N, ext, rx, L) I E 27 [some (.ref 452), some (.int v1), some (.int v2), some (.ref 49), some (.int v4), some (.int v5), some (.ref j2)] [] [] []) (b := q_kc (t, r, m, z, N, ext, rx, L) I E 19 [some (.ref 452), some (.int v1), some (.int v2), some (.ref 49), some (.int v4), some (.int v5), some (.ref j2)] [] [] []) (P := ¬ (nI (q_str (100 + j2)).length) = v2) ok_X11_writtenSign rfl q_cn (fun h3 => ?_) (fun h3 => ?_)
      · have hf := q_ip h3 hf
        refine q_blk 2 [] (c' := q_kc (t, r, m, z, N, ext, rx, L) I E 7 [some (.ref 452), some (.int v1), some (.int v2), some (.ref 49), some (.int v4), some (.int (v5 + 1)), some (.ref j2)] [] [] []) ok_X11_writtenSign rfl q_cn ?_
        refine q_less (ls' := [some (.ref 452), some (.int v1), some (.int v2), some (.ref 49), some (.int v4), some (.int (v5 + 1)), none]) (q_sb2 (q_sb2 (q_sb2 (q_sb2 (q_sb2 (q_sb2 (q_sb1 q_sb0))))))) ?_
        exact ih (I := q_ws I []) (E := q_ws E []) hf (fun hz => q_Jmrg rfl rfl (hK0 hz)) (fun hz => q_Jmrg rfl rfl (hK1 hz))
      · have hf := q_in h3 hf
        refine q_blk 2 [] (c' := q_kc (t, r, m, z, N, ext, rx, L) I E 21 [some (.ref 452), some (.int v1), some (.int v2), some (.ref 49), some (.int v4), some (.int v5), some (.ref j2)] [.ref j2, .ref 452] [] []) ok_X11_writtenSign rfl q_cn ?_
        refine q_kxt (pos' := 22) ok_X11_writtenSign rfl (q_ix_lt hj2) (Or.inl rfl) rfl ?_
        refine q_blk 1 [] (c' := q_kc (t, r, m, z, N, ext, rx, L) I E 23 [some (.ref 452), some (.int v1), some (.int v2), some (.ref 49), some (.int v4), some (.int v5), some (.ref j2)] [.int v1, .ref (100 + j2), .ref 452] [] []) ok_X11_writtenSign rfl q_cn ?_
        obtain ⟨r4, hr4, hf⟩ := q_bd hf
        refine q_kV (M2 := m_X11_isWritten) (As := [.ref (100 + j2), .int v1]) (b := 452) (v2 := some (.int (q_bz r4))) ok_X11_writtenSign ok_X11_isWritten cv_X11_isWritten (ct_X11_isWritten_452 (d := 9) (Nat.le_refl _) hr4) rfl rfl (Or.inl rfl) rfl rfl rfl rfl (Nat.le_trans (Nat.le_of_ble_eq_true rfl) hd) hk hn (Nat.le_of_ble_eq_true rfl) (fun x hx => absurd hx List.not_mem_nil) (q_nmL0 _) (q_nmS0 _) rfl (pos' := 24) (st' := [.int (q_bz r4)]) (lI' := []) (lE' := []) rfl rfl rfl rfl ?_
        refine q_blf 0 [] (a := q_kc (t, r, m, z, N, ext, rx, L) I E 27 [some (.ref 452), some (.int v1), some (.int v2), some (.ref 49), some (.int v4), some (.int v5), some (.ref j2)] [] [] []) (b := q_kc (t, r, m, z, N, ext, rx, L) I E 25 [some (.ref 452), some (.int v1), some (.int v2), some (.ref 49), some (.int v4), some (.int v5), some (.ref j2)] [] [] []) (P := (q_bz r4) = 0) ok_X11_writtenSign rfl q_cn (fun h5 => ?_) (fun h5 => ?_)
        · have hf := q_ip h5 hf
          refine q_blk 2 [] (c' := q_kc (t, r, m, z, N, ext, rx, L) I E 7 [some (.ref 452), some (.int v1), some (.int v2), some (.ref 49), some (.int v4), some (.int (v5 + 1)), some (.ref j2)] [] [] []) ok_X11_writtenSign rfl q_cn ?_
          refine q_less (ls' := [some (.ref 452), some (.int v1), some (.int v2), some (.ref 49), some (.int v4), some (.int (v5 + 1)), none]) (q_sb2 (q_sb2 (q_sb2 (q_sb2 (q_sb2 (q_sb2 (q_sb1 q_sb0))))))) ?_
          exact ih (I := q_ws I []) (E := q_ws E []) hf (fun hz => q_Jmrg rfl rfl (hK0 hz)) (fun hz => q_Jmrg rfl rfl (hK1 hz))
        · have hf := q_in h5 hf
          refine q_less (ls' := [none, none, none, none, none, none, some (.ref j2)]) (q_sb1 (q_sb1 (q_sb1 (q_sb1 (q_sb1 (q_sb1 (q_sb2 q_sb0))))))) ?_
          cases hf
          exact q_Jpad [] [] rfl rfl (hK1 rfl)
set_option maxHeartbeats 4000000 in
theorem ct_X11_writtenSign_452 {g : q_G} {t : Nat} {r : Nat} {m : Nat} {z : Nat} {N : Nat} {ext : Nat → q_Sh} {rx : Nat → Nat → Option Nat} {L : Nat → Nat → Int64} {d : Nat} (hd : 10 ≤ d)  {I : Nat → Nat → Int32} {E : Nat → Nat → Option Nat} {x1 : Int32} {x2 : Int32} {r0 : Nat} (hf : f_X11_writtenSign (I 401) (I 452) x1 x2 = some r0) : q_Ct g m_X11_writtenSign d 0 0 [] [.ref 452, .int x1, .int x2] (q_hp (t, r, m, z, N, ext, rx, L) I E) (fun o h' => o = .inl (some (.ref r0)) ∧ h' = q_hp (t, r, m, z, N, ext, rx, L) (q_ws I []) (q_ws E [])) := by
  rw [f_X11_writtenSign] at hf
  refine q_Ct_of ok_X11_writtenSign (Nat.le_of_ble_eq_true rfl) ?_ _ rfl rfl
  change q_J g m_X11_writtenSign d 0 0 _ [] _ 0 0 (q_kc (t, r, m, z, N, ext, rx, L) I E 0 [some (.ref 452), some (.int x1), some (.int x2), none, none, none, none] [] [] [])
  refine q_blk 7 [] (c' := q_kc (t, r, m, z, N, ext, rx, L) I E 7 [some (.ref 452), some (.int x1), some (.int x2), some (.ref 49), some (.int (nI 49)), some (.int (0 : Int32)), none] [] [] []) ok_X11_writtenSign rfl q_cn ?_
  obtain ⟨r6, hr6, hf⟩ := q_bd hf
  refine lp_X11_writtenSign_L7_452 (I := q_ws I []) (E := q_ws E []) hd (Nat.le_of_ble_eq_true rfl) (Nat.le_of_ble_eq_true rfl) 4096 hr6 ?_ ?_
  · intro hz0
    have hf := q_ip hz0 hf
    refine q_Jmrg (lI' := []) (lE' := []) rfl rfl ?_
    refine q_blk 1 [] (c' := q_kc (t, r, m, z, N, ext, rx, L) I E 30 [none, none, none, none, none, none, none] [.ref 1] [] []) ok_X11_writtenSign rfl q_cn ?_
    cases hf
    exact q_kra ok_X11_writtenSign rfl rfl (Nat.le_of_ble_eq_true rfl) (Nat.le_of_ble_eq_true rfl) ⟨rfl, q_hpe (q_fin [] rfl) (q_fin [] rfl)⟩
  · intro hz1
    have hf := q_in (fun h9 => absurd (hz1.symm.trans h9) (by decide)) hf
    obtain ⟨u7, hu8, hf⟩ := q_bd hf
    refine q_Jmrg (lI' := []) (lE' := []) rfl rfl ?_
    refine q_blk 1 [] (c' := q_kc (t, r, m, z, N, ext, rx, L) I E 26 [none, none, none, none, none, none, some (.ref r6.2)] [.ref r6.2] [] []) ok_X11_writtenSign rfl q_cn ?_
    cases hf
    exact q_kra ok_X11_writtenSign rfl rfl (Nat.le_of_ble_eq_true rfl) (Nat.le_of_ble_eq_true rfl) ⟨rfl, q_hpe (q_fin [] rfl) (q_fin [] rfl)⟩
set_option maxHeartbeats 4000000 in
theorem ct_X11_tokenLength_452 {g : q_G} {t : Nat} {r : Nat} {m : Nat} {z : Nat} {N : Nat} {ext : Nat → q_Sh} {rx : Nat → Nat → Option Nat} {L : Nat → Nat → Int64} {d : Nat} (hd : 11 ≤ d)  {I : Nat → Nat → Int32} {E : Nat → Nat → Option Nat} {x1 : Int32} {r0 : Int32} (hf : f_X11_tokenLength (I 401) (I 452) x1 = some r0) : q_Ct g m_X11_tokenLength d 0 0 [] [.ref 452, .int x1] (q_hp (t, r, m, z, N, ext, rx, L) I E) (fun o h' => o = .inl (some (.int r0)) ∧ h' = q_hp (t, r, m, z, N, ext, rx, L) (q_ws I []) (q_ws E [])) := by
  rw [f_X11_tokenLength] at hf
  refine q_Ct_of ok_X11_tokenLength (Nat.le_of_ble_eq_true rfl) ?_ _ rfl rfl
  change q_J g m_X11_tokenLength d 0 0 _ [] _ 0 0 (q_kc (t, r, m, z, N, ext, rx, L) I E 0 [some (.ref 452), some (.int x1)] [] [] [])
  refine q_blk 2 [] (c' := q_kc (t, r, m, z, N, ext, rx, L) I E 2 [some (.ref 452), some (.int x1)] [.int x1, .ref 452] [] []) ok_X11_tokenLength rfl q_cn ?_
  obtain ⟨r1, hr1, hf⟩ := q_bd hf
  refine q_kV (M2 := m_X11_at) (As := [.int x1]) (b := 452) (v2 := some (.int r1)) ok_X11_tokenLength ok_X11_at cv_X11_at (ct_X11_at_452 (d := 1) (Nat.le_refl _) hr1) rfl rfl (Or.inl rfl) rfl rfl rfl rfl (Nat.le_trans (Nat.le_of_ble_eq_true rfl) hd) (Nat.le_of_ble_eq_true rfl) (Nat.le_of_ble_eq_true rfl) (Nat.le_of_ble_eq_true rfl) (fun x hx => absurd hx List.not_mem_nil) (q_nmL0 _) (q_nmS0 _) rfl (pos' := 3) (st' := [.int r1]) (lI' := []) (lE' := []) rfl rfl rfl rfl ?_
  obtain ⟨r2, hr2, hf⟩ := q_bd hf
  refine q_kS (M2 := m_X11_isLetter) (As := [.int r1]) (v2 := some (.int (q_bz r2))) ok_X11_tokenLength ok_X11_isLetter cs_X11_isLetter (ct_X11_isLetter (d := 1) (Nat.le_refl _) hr2) rfl rfl (Or.inl rfl) (Nat.le_trans (Nat.le_of_ble_eq_true rfl) hd) (Nat.le_of_ble_eq_true rfl) (Nat.le_of_ble_eq_true rfl) (Nat.le_of_ble_eq_true rfl) (fun x hx => absurd hx List.not_mem_nil) (q_nmL0 _) (q_nmS0 _) rfl (pos' := 4) (st' := [.int (q_bz r2)]) (lI' := []) (lE' := []) rfl rfl rfl rfl ?_
  refine q_blf 0 [] (a := q_kc (t, r, m, z, N, ext, rx, L) I E 11 [some (.ref 452), some (.int x1)] [] [] []) (b := q_kc (t, r, m, z, N, ext, rx, L) I E 5 [some (.ref 452), some (.int x1)] [] [] []) (P := (q_bz r2) = 0) ok_X11_tokenLength rfl q_cn (fun h3 => ?_) (fun h3 => ?_)
  · have hf := q_ip h3 hf
    refine q_blk 2 [] (c' := q_kc (t, r, m, z, N, ext, rx, L) I E 13 [some (.ref 452), some (.int x1)] [.int x1, .ref 452] [] []) ok_X11_tokenLength rfl q_cn ?_
    obtain ⟨r4, hr4, hf⟩ := q_bd hf
    refine q_kV (M2 := m_X11_at) (As := [.int x1]) (b := 452) (v2 := some (.int r4)) ok_X11_tokenLength ok_X11_at cv_X11_at (ct_X11_at_452 (d := 1) (Nat.le_refl _) hr4) rfl rfl (Or.inl rfl) rfl rfl rfl rfl (Nat.le_trans (Nat.le_of_ble_eq_true rfl) hd) (Nat.le_of_ble_eq_true rfl) (Nat.le_of_ble_eq_true rfl) (Nat.le_of_ble_eq_true rfl) (fun x hx => absurd hx List.not_mem_nil) (q_nmL0 _) (q_nmS0 _) rfl (pos' := 14) (st' := [.int r4]) (lI' := []) (lE' := []) rfl rfl rfl rfl ?_
    obtain ⟨r5, hr5, hf⟩ := q_bd hf
    refine q_kS (M2 := m_X11_isDigit) (As := [.int r4]) (v2 := some (.int (q_bz r5))) ok_X11_tokenLength ok_X11_isDigit cs_X11_isDigit (ct_X11_isDigit (d := 1) (Nat.le_refl _) hr5) rfl rfl (Or.inl rfl) (Nat.le_trans (Nat.le_of_ble_eq_true rfl) hd) (Nat.le_of_ble_eq_true rfl) (Nat.le_of_ble_eq_true rfl) (Nat.le_of_ble_eq_true rfl) (fun x hx => absurd hx List.not_mem_nil) (q_nmL0 _) (q_nmS0 _) rfl (pos' := 15) (st' := [.int (q_bz r5)]) (lI' := []) (lE' := []) rfl rfl rfl rfl ?_
    refine q_blf 0 [] (a := q_kc (t, r, m, z, N, ext, rx, L) I E 22 [some (.ref 452), some (.int x1)] [] [] []) (b := q_kc (t, r, m, z, N, ext, rx, L) I E 16 [some (.ref 452), some (.int x1)] [] [] []) (P := (q_bz r5) = 0) ok_X11_tokenLength rfl q_cn (fun h6 => ?_) (fun h6 => ?_)
    · have hf := q_ip h6 hf
      refine q_blk 3 [] (c' := q_kc (t, r, m, z, N, ext, rx, L) I E 25 [some (.ref 452), some (.int x1)] [.int (2 : Int32), .int x1, .ref 452] [] []) ok_X11_tokenLength rfl q_cn ?_
      obtain ⟨r7, hr7, hf⟩ := q_bd hf
      obtain ⟨u8, hu9, hf⟩ := q_bd hf
      refine q_kV (M2 := m_X11_writtenSign) (As := [.int x1, .int (2 : Int32)]) (b := 452) (v2 := some (.ref r7)) ok_X11_tokenLength ok_X11_writtenSign cv_X11_writtenSign (ct_X11_writtenSign_452 (d := 10) (Nat.le_refl _) hr7) rfl rfl (Or.inl rfl) rfl rfl rfl rfl (Nat.le_trans (Nat.le_of_ble_eq_true rfl) hd) (Nat.le_of_ble_eq_true rfl) (Nat.le_of_ble_eq_true rfl) (Nat.le_of_ble_eq_true rfl) (fun x hx => absurd hx List.not_mem_nil) (q_nmL0 _) (q_nmS0 _) rfl (pos' := 26) (st' := [.ref r7]) (lI' := []) (lE' := []) rfl rfl rfl rfl ?_
      refine q_blk 1 [] (c' := q_kc (t, r, m, z, N, ext, rx, L) I E 27 [some (.ref 452), some (.int x1)] [.ref 1, .ref r7] [] []) ok_X11_tokenLength rfl q_cn ?_
      refine q_o_acmp_eq ok_X11_tokenLength rfl (q_e49_lt hu9) (Nat.lt_of_lt_of_le (Nat.lt_succ_self _) (Nat.le_of_ble_eq_true rfl)) (fun h10 => ?_) (fun h10 => ?_)
      · have hf := q_ip h10 hf
        refine q_blk 3 [] (c' := q_kc (t, r, m, z, N, ext, rx, L) I E 33 [some (.ref 452), some (.int x1)] [.int (1 : Int32), .int x1, .ref 452] [] []) ok_X11_tokenLength rfl q_cn ?_
        obtain ⟨r11, hr11, hf⟩ := q_bd hf
        obtain ⟨u12, hu13, hf⟩ := q_bd hf
        refine q_kV (M2 := m_X11_writtenSign) (As := [.int x1, .int (1 : Int32)]) (b := 452) (v2 := some (.ref r11)) ok_X11_tokenLength ok_X11_writtenSign cv_X11_writtenSign (ct_X11_writtenSign_452 (d := 10) (Nat.le_refl _) hr11) rfl rfl (Or.inl rfl) rfl rfl rfl rfl (Nat.le_trans (Nat.le_of_ble_eq_true rfl) hd) (Nat.le_of_ble_eq_true rfl) (Nat.le_of_ble_eq_true rfl) (Nat.le_of_ble_eq_true rfl) (fun x hx => absurd hx List.not_mem_nil) (q_nmL0 _) (q_nmS0 _) rfl (pos' := 34) (st' := [.ref r11]) (lI' := []) (lE' := []) rfl rfl rfl rfl ?_
        refine q_blk 1 [] (c' := q_kc (t, r, m, z, N, ext, rx, L) I E 35 [some (.ref 452), some (.int x1)] [.ref 1, .ref r11] [] []) ok_X11_tokenLength rfl q_cn ?_
        refine q_o_acmp_eq ok_X11_tokenLength rfl (q_e49_lt hu13) (Nat.lt_of_lt_of_le (Nat.lt_succ_self _) (Nat.le_of_ble_eq_true rfl)) (fun h14 => ?_) (fun h14 => ?_)
        · have hf := q_ip h14 hf
          refine q_blk 1 [] (c' := q_kc (t, r, m, z, N, ext, rx, L) I E 39 [some (.ref 452), some (.int x1)] [.int (0 : Int32)] [] []) ok_X11_tokenLength rfl q_cn ?_
          cases hf
          exact q_kri ok_X11_tokenLength rfl rfl rfl (Nat.le_of_ble_eq_true rfl) (Nat.le_of_ble_eq_true rfl) ⟨rfl, q_hpe (q_fin [] rfl) (q_fin [] rfl)⟩
        · have hf := q_in h14 hf
          refine q_blk 2 [] (c' := q_kc (t, r, m, z, N, ext, rx, L) I E 39 [some (.ref 452), some (.int x1)] [.int (1 : Int32)] [] []) ok_X11_tokenLength rfl q_cn ?_
          cases hf
          exact q_kri ok_X11_tokenLength rfl rfl rfl (Nat.le_of_ble_eq_true rfl) (Nat.le_of_ble_eq_true rfl) ⟨rfl, q_hpe (q_fin [] rfl) (q_fin [] rfl)⟩
      · have hf := q_in h10 hf
        refine q_blk 1 [] (c' := q_kc (t, r, m, z, N, ext, rx, L) I E 29 [some (.ref 452), some (.int x1)] [.int (2 : Int32)] [] []) ok_X11_tokenLength rfl q_cn ?_
        cases hf
        exact q_kri ok_X11_tokenLength rfl rfl rfl (Nat.le_of_ble_eq_true rfl) (Nat.le_of_ble_eq_true rfl) ⟨rfl, q_hpe (q_fin [] rfl) (q_fin [] rfl)⟩
    · have hf := q_in h6 hf
      refine q_blk 2 [] (c' := q_kc (t, r, m, z, N, ext, rx, L) I E 18 [some (.ref 452), some (.int x1)] [.int x1, .ref 452] [] []) ok_X11_tokenLength rfl q_cn ?_
      obtain ⟨r15, hr15, hf⟩ := q_bd hf
      refine q_kV (M2 := m_X11_digitCount) (As := [.int x1]) (b := 452) (v2 := some (.int r15)) ok_X11_tokenLength ok_X11_digitCount cv_X11_digitCount (ct_X11_digitCount_452 (d := 2) (Nat.le_refl _) hr15) rfl rfl (Or.inl rfl) rfl rfl rfl rfl (Nat.le_trans (Nat.le_of_ble_eq_true rfl) hd) (Nat.le_of_ble_eq_true rfl) (Nat.le_of_ble_eq_true rfl) (Nat.le_of_ble_eq_true rfl) (fun x hx => absurd hx List.not_mem_nil) (q_nmL0 _) (q_nmS0 _) rfl (pos' := 19) (st' := [.int r15]) (lI' := []) (lE' := []) rfl rfl rfl rfl ?_
      refine q_blk 1 [] (c' := q_kc (t, r, m, z, N, ext, rx, L) I E 20 [some (.ref 452), some (.int x1)] [.int (6 : Int32), .int r15] [] []) ok_X11_tokenLength rfl q_cn ?_
      obtain ⟨r16, hr16, hf⟩ := q_bd hf
      refine q_kS (M2 := m_X11_lengthWithin) (As := [.int r15, .int (6 : Int32)]) (v2 := some (.int r16)) ok_X11_tokenLength ok_X11_lengthWithin cs_X11_lengthWithin (ct_X11_lengthWithin (d := 1) (Nat.le_refl _) hr16) rfl rfl (Or.inl rfl) (Nat.le_trans (Nat.le_of_ble_eq_true rfl) hd) (Nat.le_of_ble_eq_true rfl) (Nat.le_of_ble_eq_true rfl) (Nat.le_of_ble_eq_true rfl) (fun x hx => absurd hx List.not_mem_nil) (q_nmL0 _) (q_nmS0 _) rfl (pos' := 21) (st' := [.int r16]) (lI' := []) (lE' := []) rfl rfl rfl rfl ?_
      cases hf
      exact q_kri ok_X11_tokenLength rfl rfl rfl (Nat.le_of_ble_eq_true rfl) (Nat.le_of_ble_eq_true rfl) ⟨rfl, q_hpe (q_fin [] rfl) (q_fin [] rfl)⟩
  · have hf := q_in h3 hf
    refine q_blk 2 [] (c' := q_kc (t, r, m, z, N, ext, rx, L) I E 7 [some (.ref 452), some (.int x1)] [.int x1, .ref 452] [] []) ok_X11_tokenLength rfl q_cn ?_
    obtain ⟨r17, hr17, hf⟩ := q_bd hf
    refine q_kV (M2 := m_X11_wordLength) (As := [.int x1]) (b := 452) (v2 := some (.int r17)) ok_X11_tokenLength ok_X11_wordLength cv_X11_wordLength (ct_X11_wordLength_452 (d := 2) (Nat.le_refl _) hr17) rfl rfl (Or.inl rfl) rfl rfl rfl rfl (Nat.le_trans (Nat.le_of_ble_eq_true rfl) hd) (Nat.le_of_ble_eq_true rfl) (Nat.le_of_ble_eq_true rfl) (Nat.le_of_ble_eq_true rfl) (fun x hx => absurd hx List.not_mem_nil) (q_nmL0 _) (q_nmS0 _) rfl (pos' := 8) (st' := [.int r17]) (lI' := []) (lE' := []) rfl rfl rfl rfl ?_
    refine q_blk 1 [] (c' := q_kc (t, r, m, z, N, ext, rx, L) I E 9 [some (.ref 452), some (.int x1)] [.int (10 : Int32), .int r17] [] []) ok_X11_tokenLength rfl q_cn ?_
    obtain ⟨r18, hr18, hf⟩ := q_bd hf
    refine q_kS (M2 := m_X11_lengthWithin) (As := [.int r17, .int (10 : Int32)]) (v2 := some (.int r18)) ok_X11_tokenLength ok_X11_lengthWithin cs_X11_lengthWithin (ct_X11_lengthWithin (d := 1) (Nat.le_refl _) hr18) rfl rfl (Or.inl rfl) (Nat.le_trans (Nat.le_of_ble_eq_true rfl) hd) (Nat.le_of_ble_eq_true rfl) (Nat.le_of_ble_eq_true rfl) (Nat.le_of_ble_eq_true rfl) (fun x hx => absurd hx List.not_mem_nil) (q_nmL0 _) (q_nmS0 _) rfl (pos' := 10) (st' := [.int r18]) (lI' := []) (lE' := []) rfl rfl rfl rfl ?_
    cases hf
    exact q_kri ok_X11_tokenLength rfl rfl rfl (Nat.le_of_ble_eq_true rfl) (Nat.le_of_ble_eq_true rfl) ⟨rfl, q_hpe (q_fin [] rfl) (q_fin [] rfl)⟩
set_option maxHeartbeats 4000000 in
theorem ct_X11_tokenSign_452 {g : q_G} {t : Nat} {r : Nat} {m : Nat} {z : Nat} {N : Nat} {ext : Nat → q_Sh} {rx : Nat → Nat → Option Nat} {L : Nat → Nat → Int64} {d : Nat} (hd : 11 ≤ d)  {I : Nat → Nat → Int32} {E : Nat → Nat → Option Nat} {x1 : Int32} {x2 : Int32} {r0 : Nat} (hf : f_X11_tokenSign (I 401) (I 452) x1 x2 = some r0) : q_Ct g m_X11_tokenSign d 0 0 [] [.ref 452, .int x1, .int x2] (q_hp (t, r, m, z, N, ext, rx, L) I E) (fun o h' => o = .inl (some (.ref r0)) ∧ h' = q_hp (t, r, m, z, N, ext, rx, L) (q_ws I []) (q_ws E [])) := by
  rw [f_X11_tokenSign] at hf
  refine q_Ct_of ok_X11_tokenSign (Nat.le_of_ble_eq_true rfl) ?_ _ rfl rfl
  change q_J g m_X11_tokenSign d 0 0 _ [] _ 0 0 (q_kc (t, r, m, z, N, ext, rx, L) I E 0 [some (.ref 452), some (.int x1), some (.int x2), none] [] [] [])
  refine q_blk 2 [] (c' := q_kc (t, r, m, z, N, ext, rx, L) I E 2 [some (.ref 452), some (.int x1), some (.int x2), none] [.int x1, .ref 452] [] []) ok_X11_tokenSign rfl q_cn ?_
  obtain ⟨r1, hr1, hf⟩ := q_bd hf
  refine q_kV (M2 := m_X11_at) (As := [.int x1]) (b := 452) (v2 := some (.int r1)) ok_X11_tokenSign ok_X11_at cv_X11_at (ct_X11_at_452 (d := 1) (Nat.le_refl _) hr1) rfl rfl (Or.inl rfl) rfl rfl rfl rfl (Nat.le_trans (Nat.le_of_ble_eq_true rfl) hd) (Nat.le_of_ble_eq_true rfl) (Nat.le_of_ble_eq_true rfl) (Nat.le_of_ble_eq_true rfl) (fun x hx => absurd hx List.not_mem_nil) (q_nmL0 _) (q_nmS0 _) rfl (pos' := 3) (st' := [.int r1]) (lI' := []) (lE' := []) rfl rfl rfl rfl ?_
  obtain ⟨r2, hr2, hf⟩ := q_bd hf
  refine q_kS (M2 := m_X11_isDigit) (As := [.int r1]) (v2 := some (.int (q_bz r2))) ok_X11_tokenSign ok_X11_isDigit cs_X11_isDigit (ct_X11_isDigit (d := 1) (Nat.le_refl _) hr2) rfl rfl (Or.inl rfl) (Nat.le_trans (Nat.le_of_ble_eq_true rfl) hd) (Nat.le_of_ble_eq_true rfl) (Nat.le_of_ble_eq_true rfl) (Nat.le_of_ble_eq_true rfl) (fun x hx => absurd hx List.not_mem_nil) (q_nmL0 _) (q_nmS0 _) rfl (pos' := 4) (st' := [.int (q_bz r2)]) (lI' := []) (lE' := []) rfl rfl rfl rfl ?_
  refine q_blf 0 [] (a := q_kc (t, r, m, z, N, ext, rx, L) I E 7 [some (.ref 452), some (.int x1), some (.int x2), none] [] [] []) (b := q_kc (t, r, m, z, N, ext, rx, L) I E 5 [some (.ref 452), some (.int x1), some (.int x2), none] [] [] []) (P := (q_bz r2) = 0) ok_X11_tokenSign rfl q_cn (fun h3 => ?_) (fun h3 => ?_)
  · have hf := q_ip h3 hf
    refine q_blk 3 [] (c' := q_kc (t, r, m, z, N, ext, rx, L) I E 10 [some (.ref 452), some (.int x1), some (.int x2), none] [.int x2, .int x1, .ref 452] [] []) ok_X11_tokenSign rfl q_cn ?_
    obtain ⟨r4, hr4, hf⟩ := q_bd hf
    obtain ⟨u5, hu6, hf⟩ := q_bd hf
    refine q_kV (M2 := m_X11_writtenSign) (As := [.int x1, .int x2]) (b := 452) (v2 := some (.ref r4)) ok_X11_tokenSign ok_X11_writtenSign cv_X11_writtenSign (ct_X11_writtenSign_452 (d := 10) (Nat.le_refl _) hr4) rfl rfl (Or.inl rfl) rfl rfl rfl rfl (Nat.le_trans (Nat.le_of_ble_eq_true rfl) hd) (Nat.le_of_ble_eq_true rfl) (Nat.le_of_ble_eq_true rfl) (Nat.le_of_ble_eq_true rfl) (fun x hx => absurd hx List.not_mem_nil) (q_nmL0 _) (q_nmS0 _) rfl (pos' := 11) (st' := [.ref r4]) (lI' := []) (lE' := []) rfl rfl rfl rfl ?_
    refine q_blk 3 [] (c' := q_kc (t, r, m, z, N, ext, rx, L) I E 14 [some (.ref 452), some (.int x1), some (.int x2), some (.ref r4)] [.ref 1, .ref r4] [] []) ok_X11_tokenSign rfl q_cn ?_
    refine q_o_acmp_ne ok_X11_tokenSign rfl (q_e49_lt hu6) (Nat.lt_of_lt_of_le (Nat.lt_succ_self _) (Nat.le_of_ble_eq_true rfl)) (fun h7 => ?_) (fun h7 => ?_)
    · have hf := q_in h7 hf
      refine q_blk 1 [] (c' := q_kc (t, r, m, z, N, ext, rx, L) I E 18 [some (.ref 452), some (.int x1), some (.int x2), some (.ref r4)] [.ref r4] [] []) ok_X11_tokenSign rfl q_cn ?_
      cases hf
      exact q_kra ok_X11_tokenSign rfl rfl (Nat.le_of_ble_eq_true rfl) (Nat.le_of_ble_eq_true rfl) ⟨rfl, q_hpe (q_fin [] rfl) (q_fin [] rfl)⟩
    · have hf := q_ip h7 hf
      refine q_blk 2 [] (c' := q_kc (t, r, m, z, N, ext, rx, L) I E 18 [some (.ref 452), some (.int x1), some (.int x2), some (.ref r4)] [.ref 3] [] []) ok_X11_tokenSign rfl q_cn ?_
      cases hf
      exact q_kra ok_X11_tokenSign rfl rfl (Nat.le_of_ble_eq_true rfl) (Nat.le_of_ble_eq_true rfl) ⟨rfl, q_hpe (q_fin [] rfl) (q_fin [] rfl)⟩
  · have hf := q_in h3 hf
    refine q_blk 1 [] (c' := q_kc (t, r, m, z, N, ext, rx, L) I E 6 [some (.ref 452), some (.int x1), some (.int x2), none] [.ref 2] [] []) ok_X11_tokenSign rfl q_cn ?_
    cases hf
    exact q_kra ok_X11_tokenSign rfl rfl (Nat.le_of_ble_eq_true rfl) (Nat.le_of_ble_eq_true rfl) ⟨rfl, q_hpe (q_fin [] rfl) (q_fin [] rfl)⟩
set_option maxHeartbeats 4000000 in
theorem lp_X11_numberAt_L4_452 {g : q_G} {d mc ms : Nat} {h0 : q_H} {Q : (Option Value ⊕ String) → q_H → Prop} {k n : Nat} {t : Nat} {r : Nat} {m : Nat} {z : Nat} {N : Nat} {ext : Nat → q_Sh} {rx : Nat → Nat → Option Nat} {L : Nat → Nat → Int64} (hd : 2 ≤ d) (hk : k ≤ mc) (hn : n ≤ ms)  {v1 : Int32} {v2 : Int32} : ∀ (fu : Nat) {I : Nat → Nat → Int32} {E : Nat → Nat → Option Nat} {v3 : Int32} {v4 : Int32} {r0 : Int32} (hf : f_X11_numberAt_L4 (I 401) (I 452) v1 v2 fu v3 v4 = some r0) (hK0 : q_J g m_X11_numberAt d mc ms h0 [] Q k n (q_kc (t, r, m, z, N, ext, rx, L) I E 21 [none, none, none, some (.int r0), none] [] [] [])), q_J g m_X11_numberAt d mc ms h0 [] Q k n (4, [some (.ref 452), some (.int v1), some (.int v2), some (.int v3), some (.int v4)], [], q_hp (t, r, m, z, N, ext, rx, L) I E) := by
  intro fu
  induction fu with
  | zero =>
    intro I E v3 v4 r0 hf hK0
    rw [f_X11_numberAt_L4] at hf
    cases hf
  | succ fu ih =>
    intro I E v3 v4 r0 hf hK0
    rw [f_X11_numberAt_L4] at hf
    change q_J g m_X11_numberAt d mc ms h0 [] Q k n (q_kc (t, r, m, z, N, ext, rx, L) I E 4 [some (.ref 452), some (.int v1), some (.int v2), some (.int v3), some (.int v4)] [] [] [])
    refine q_blf 2 [] (a := q_kc (t, r, m, z, N, ext, rx, L) I E 21 [some (.ref 452), some (.int v1), some (.int v2), some (.int v3), some (.int v4)] [] [] []) (b := q_kc (t, r, m, z, N, ext, rx, L) I E 7 [some (.ref 452), some (.int v1), some (.int v2), some (.int v3), some (.int v4)] [] [] []) (P := v2 ≤ v4) ok_X11_numberAt rfl q_cn (fun h1 => ?_) (fun h1 => ?_)
    · have hf := q_ip h1 hf
      refine q_less (ls' := [none, none, none, some (.int v3), none]) (q_sb1 (q_sb1 (q_sb1 (q_sb2 (q_sb1 q_sb0))))) ?_
      cases hf
      exact q_Jpad [] [] rfl rfl hK0
    · have hf := q_in h1 hf
      refine q_blk 7 [] (c' := q_kc (t, r, m, z, N, ext, rx, L) I E 14 [some (.ref 452), some (.int v1), some (.int v2), some (.int v3), some (.int v4)] [.int (v1 + v4), .ref 452, .int (v3 * (10 : Int32))] [] []) ok_X11_numberAt rfl q_cn ?_
      obtain ⟨r2, hr2, hf⟩ := q_bd hf
      refine q_kV (M2 := m_X11_at) (As := [.int (v1 + v4)]) (b := 452) (v2 := some (.int r2)) ok_X11_numberAt ok_X11_at cv_X11_at (ct_X11_at_452 (d := 1) (Nat.le_refl _) hr2) rfl rfl (Or.inl rfl) rfl rfl rfl rfl (Nat.le_trans (Nat.le_of_ble_eq_true rfl) hd) hk hn (Nat.le_of_ble_eq_true rfl) (fun x hx => absurd hx List.not_mem_nil) (q_nmL0 _) (q_nmS0 _) rfl (pos' := 15) (st' := [.int r2, .int (v3 * (10 : Int32))]) (lI' := []) (lE' := []) rfl rfl rfl rfl ?_
      refine q_blk 6 [] (c' := q_kc (t, r, m, z, N, ext, rx, L) I E 4 [some (.ref 452), some (.int v1), some (.int v2), some (.int (((v3 * (10 : Int32)) + r2) - (48 : Int32))), some (.int (v4 + 1))] [] [] []) ok_X11_numberAt rfl q_cn ?_
      exact ih (I := q_ws I []) (E := q_ws E []) hf (q_Jmrg rfl rfl hK0)
set_option maxHeartbeats 4000000 in
theorem ct_X11_numberAt_452 {g : q_G} {t : Nat} {r : Nat} {m : Nat} {z : Nat} {N : Nat} {ext : Nat → q_Sh} {rx : Nat → Nat → Option Nat} {L : Nat → Nat → Int64} {d : Nat} (hd : 2 ≤ d)  {I : Nat → Nat → Int32} {E : Nat → Nat → Option Nat} {x1 : Int32} {x2 : Int32} {r0 : Int32} (hf : f_X11_numberAt (I 401) (I 452) x1 x2 = some r0) : q_Ct g m_X11_numberAt d 0 0 [] [.ref 452, .int x1, .int x2] (q_hp (t, r, m, z, N, ext, rx, L) I E) (fun o h' => o = .inl (some (.int r0)) ∧ h' = q_hp (t, r, m, z, N, ext, rx, L) (q_ws I []) (q_ws E [])) := by
  rw [f_X11_numberAt] at hf
  refine q_Ct_of ok_X11_numberAt (Nat.le_of_ble_eq_true rfl) ?_ _ rfl rfl
  change q_J g m_X11_numberAt d 0 0 _ [] _ 0 0 (q_kc (t, r, m, z, N, ext, rx, L) I E 0 [some (.ref 452), some (.int x1), some (.int x2), none, none] [] [] [])
  refine q_blk 4 [] (c' := q_kc (t, r, m, z, N, ext, rx, L) I E 4 [some (.ref 452), some (.int x1), some (.int x2), some (.int (0 : Int32)), some (.int (0 : Int32))] [] [] []) ok_X11_numberAt rfl q_cn ?_
  obtain ⟨r3, hr3, hf⟩ := q_bd hf
  refine lp_X11_numberAt_L4_452 (I := q_ws I []) (E := q_ws E []) hd (Nat.le_of_ble_eq_true rfl) (Nat.le_of_ble_eq_true rfl) 4096 hr3 ?_
  refine q_Jmrg (lI' := []) (lE' := []) rfl rfl ?_
  refine q_blk 1 [] (c' := q_kc (t, r, m, z, N, ext, rx, L) I E 22 [none, none, none, some (.int r3), none] [.int r3] [] []) ok_X11_numberAt rfl q_cn ?_
  cases hf
  exact q_kri ok_X11_numberAt rfl rfl rfl (Nat.le_of_ble_eq_true rfl) (Nat.le_of_ble_eq_true rfl) ⟨rfl, q_hpe (q_fin [] rfl) (q_fin [] rfl)⟩
set_option maxHeartbeats 4000000 in
theorem lp_X11_isSame_L2_452 {g : q_G} {d mc ms : Nat} {h0 : q_H} {Q : (Option Value ⊕ String) → q_H → Prop} {k n : Nat} {t : Nat} {r : Nat} {m : Nat} {z : Nat} {N : Nat} {ext : Nat → q_Sh} {rx : Nat → Nat → Option Nat} {L : Nat → Nat → Int64} (hd : 2 ≤ d) (hk : k ≤ mc) (hn : n ≤ ms)  {v1 : Int32} {v2 : Int32} {v3 : Int32} : ∀ (fu : Nat) {I : Nat → Nat → Int32} {E : Nat → Nat → Option Nat} {v4 : Int32} {r0 : Nat} (hf : f_X11_isSame_L2 (I 401) (I 452) v1 v2 v3 fu v4 = some r0) (hK0 : r0.1 = 0 → q_J g m_X11_isSame d mc ms h0 [] Q k n (q_kc (t, r, m, z, N, ext, rx, L) I E 20 [none, none, none, none, none] [] [] [])) (hK1 : r0.1 = 1 → q_J g m_X11_isSame d mc ms h0 [] Q k n (q_kc (t, r, m, z, N, ext, rx, L) I E 16 [none, none, none, none, none] [] [] [])), q_J g m_X11_isSame d mc ms h0 [] Q k n (2, [some (.ref 452), some (.int v1), some (.int v2), some (.int v3), some (.int v4)], [], q_hp (t, r, m, z, N, ext, rx, L) I E) := by
  intro fu
  induction fu with
  | zero =>
    intro I E v4 r0 hf hK0 hK1
    rw [f_X11_isSame_L2] at hf
    cases hf
  | succ fu ih =>
    intro I E v4 r0 hf hK0 hK1
    rw [f_X11_isSame_L2] at hf
    change q_J g m_X11_isSame d mc ms h0 [] Q k n (q_kc (t, r, m, z, N, ext, rx, L) I E 2 [some (.ref 452), some (.int v1), some (.int v2), some (.int v3), some (.int v4)] [] [] [])
    refine q_blf 2 [] (a := q_kc (t, r, m, z, N, ext, rx, L) I E 20 [some (.ref 452), some (.int v1), some (.int v2), some (.int v3), some (.int v4)] [] [] []) (b := q_kc (t, r, m, z, N, ext, rx, L) I E 5 [some (.ref 452), some (.int v1), some (.int v2), some (.int v3), some (.int v4)] [] [] []) (P := v3 ≤ v4) ok_X11_isSame rfl q_cn (fun h1 => ?_) (fun h1 => ?_)
    · have hf := q_ip h1 hf
      refine q_less (ls' := [none, none, none, none, none]) (q_sb1 (q_sb1 (q_sb1 (q_sb1 (q_sb1 q_sb0))))) ?_
      cases hf
      exact q_Jpad [] [] rfl rfl (hK0 rfl)
    · have hf := q_in h1 hf
      refine q_blk 4 [] (c' := q_kc (t, r, m, z, N, ext, rx, L) I E 9 [some (.ref 452), some (.int v1), some (.int v2), some (.int v3), some (.int v4)] [.int (v1 + v4), .ref 452] [] []) ok_X11_isSame rfl q_cn ?_
      obtain ⟨r2, hr2, hf⟩ := q_bd hf
      refine q_kV (M2 := m_X11_at) (As := [.int (v1 + v4)]) (b := 452) (v2 := some (.int r2)) ok_X11_isSame ok_X11_at cv_X11_at (ct_X11_at_452 (d := 1) (Nat.le_refl _) hr2) rfl rfl (Or.inl rfl) rfl rfl rfl rfl (Nat.le_trans (Nat.le_of_ble_eq_true rfl) hd) hk hn (Nat.le_of_ble_eq_true rfl) (fun x hx => absurd hx List.not_mem_nil) (q_nmL0 _) (q_nmS0 _) rfl (pos' := 10) (st' := [.int r2]) (lI' := []) (lE' := []) rfl rfl rfl rfl ?_
      refine q_blk 4 [] (c' := q_kc (t, r, m, z, N, ext, rx, L) I E 14 [some (.ref 452), some (.int v1), some (.int v2), some (.int v3), some (.int v4)] [.int (v2 + v4), .ref 452, .int r2] [] []) ok_X11_isSame rfl q_cn ?_
      obtain ⟨r3, hr3, hf⟩ := q_bd hf
      refine q_kV (M2 := m_X11_at) (As := [.int (v2 + v4)]) (b := 452) (v2 := some (.int r3)) ok_X11_isSame ok_X11_at cv_X11_at (ct_X11_at_452 (d := 1) (Nat.le_refl _) hr3) rfl rfl (Or.inl rfl) rfl rfl rfl rfl (Nat.le_trans (Nat.le_of_ble_eq_true rfl) hd) hk hn (Nat.le_of_ble_eq_true rfl) (fun x hx => absurd hx List.not_mem_nil) (q_nmL0 _) (q_nmS0 _) rfl (pos' := 15) (st' := [.int r3, .int r2]) (lI' := []) (lE' := []) rfl rfl rfl rfl ?_
      refine q_blf 0 [] (a := q_kc (t, r, m, z, N, ext, rx, L) I E 18 [some (.ref 452), some (.int v1), some (.int v2), some (.int v3), some (.int v4)] [] [] []) (b := q_kc (t, r, m, z, N, ext, rx, L) I E 16 [some (.ref 452), some (.int v1), some (.int v2), some (.int v3), some (.int v4)] [] [] []) (P := r2 = r3) ok_X11_isSame rfl q_cn (fun h4 => ?_) (fun h4 => ?_)
      · have hf := q_ip h4 hf
        refine q_blk 2 [] (c' := q_kc (t, r, m, z, N, ext, rx, L) I E 2 [some (.ref 452), some (.int v1), some (.int v2), some (.int v3), some (.int (v4 + 1))] [] [] []) ok_X11_isSame rfl q_cn ?_
        exact ih (I := q_ws I []) (E := q_ws E []) hf (fun hz => q_Jmrg rfl rfl (hK0 hz)) (fun hz => q_Jmrg rfl rfl (hK1 hz))
      · have hf := q_in h4 hf
        refine q_less (ls' := [none, none, none, none, none]) (q_sb1 (q_sb1 (q_sb1 (q_sb1 (q_sb1 q_sb0))))) ?_
        cases hf
        exact q_Jpad [] [] rfl rfl (hK1 rfl)
set_option maxHeartbeats 4000000 in
theorem ct_X11_isSame_452 {g : q_G} {t : Nat} {r : Nat} {m : Nat} {z : Nat} {N : Nat} {ext : Nat → q_Sh} {rx : Nat → Nat → Option Nat} {L : Nat → Nat → Int64} {d : Nat} (hd : 2 ≤ d)  {I : Nat → Nat → Int32} {E : Nat → Nat → Option Nat} {x1 : Int32} {x2 : Int32} {x3 : Int32} {r0 : Bool} (hf : f_X11_isSame (I 401) (I 452) x1 x2 x3 = some r0) : q_Ct g m_X11_isSame d 0 0 [] [.ref 452, .int x1, .int x2, .int x3] (q_hp (t, r, m, z, N, ext, rx, L) I E) (fun o h' => o = .inl (some (.int (q_bz r0))) ∧ h' = q_hp (t, r, m, z, N, ext, rx, L) (q_ws I []) (q_ws E [])) := by
  rw [f_X11_isSame] at hf
  refine q_Ct_of ok_X11_isSame (Nat.le_of_ble_eq_true rfl) ?_ _ rfl rfl
  change q_J g m_X11_isSame d 0 0 _ [] _ 0 0 (q_kc (t, r, m, z, N, ext, rx, L) I E 0 [some (.ref 452), some (.int x1), some (.int x2), some (.int x3), none] [] [] [])
  refine q_blk 2 [] (c' := q_kc (t, r, m, z, N, ext, rx, L) I E 2 [some (.ref 452), some (.int x1), some (.int x2), some (.int x3), some (.int (0 : Int32))] [] [] []) ok_X11_isSame rfl q_cn ?_
  obtain ⟨r5, hr5, hf⟩ := q_bd hf
  refine lp_X11_isSame_L2_452 (I := q_ws I []) (E := q_ws E []) hd (Nat.le_of_ble_eq_true rfl) (Nat.le_of_ble_eq_true rfl) 4096 hr5 ?_ ?_
  · intro hz0
    have hf := q_ip hz0 hf
    refine q_Jmrg (lI' := []) (lE' := []) rfl rfl ?_
    refine q_blk 1 [] (c' := q_kc (t, r, m, z, N, ext, rx, L) I E 21 [none, none, none, none, none] [.int (1 : Int32)] [] []) ok_X11_isSame rfl q_cn ?_
    cases hf
    exact q_kri ok_X11_isSame rfl rfl rfl (Nat.le_of_ble_eq_true rfl) (Nat.le_of_ble_eq_true rfl) ⟨rfl, q_hpe (q_fin [] rfl) (q_fin [] rfl)⟩
  · intro hz1
    have hf := q_in (fun h9 => absurd (hz1.symm.trans h9) (by decide)) hf
    refine q_Jmrg (lI' := []) (lE' := []) rfl rfl ?_
    refine q_blk 1 [] (c' := q_kc (t, r, m, z, N, ext, rx, L) I E 17 [none, none, none, none, none] [.int (0 : Int32)] [] []) ok_X11_isSame rfl q_cn ?_
    cases hf
    exact q_kri ok_X11_isSame rfl rfl rfl (Nat.le_of_ble_eq_true rfl) (Nat.le_of_ble_eq_true rfl) ⟨rfl, q_hpe (q_fin [] rfl) (q_fin [] rfl)⟩
set_option maxHeartbeats 4000000 in
theorem lp_X11_firstLike_L2_452 {g : q_G} {d mc ms : Nat} {h0 : q_H} {Q : (Option Value ⊕ String) → q_H → Prop} {k n : Nat} {t : Nat} {r : Nat} {m : Nat} {z : Nat} {N : Nat} {ext : Nat → q_Sh} {rx : Nat → Nat → Option Nat} {L : Nat → Nat → Int64} (hd : 3 ≤ d) (hk : k ≤ mc) (hn : n ≤ ms)  {v1 : Int32} {v2 : Int32} : ∀ (fu : Nat) {I : Nat → Nat → Int32} {E : Nat → Nat → Option Nat} {v3 : Int32} {r0 : Nat × Int32} (hf : f_X11_firstLike_L2 (I 401) (I 452) (I 454) (I 455) (E 453) v1 v2 fu v3 = some r0) (hK0 : r0.1 = 0 → q_J g m_X11_firstLike d mc ms h0 [] Q k n (q_kc (t, r, m, z, N, ext, rx, L) I E 40 [some (.ref 452), none, none, none, none] [] [] [])) (hK1 : r0.1 = 1 → q_J g m_X11_firstLike d mc ms h0 [] Q k n (q_kc (t, r, m, z, N, ext, rx, L) I E 36 [none, none, none, some (.int r0.2), none] [] [] [])), q_J g m_X11_firstLike d mc ms h0 [] Q k n (2, [some (.ref 452), some (.int v1), some (.int v2), some (.int v3), none], [], q_hp (t, r, m, z, N, ext, rx, L) I E) := by
  intro fu
  induction fu with
  | zero =>
    intro I E v3 r0 hf hK0 hK1
    rw [f_X11_firstLike_L2] at hf
    cases hf
  | succ fu ih =>
    intro I E v3 r0 hf hK0 hK1
    rw [f_X11_firstLike_L2] at hf
    change q_J g m_X11_firstLike d mc ms h0 [] Q k n (q_kc (t, r, m, z, N, ext, rx, L) I E 2 [some (.ref 452), some (.int v1), some (.int v2), some (.int v3), none] [] [] [])
    refine q_blf 3 [] (a := q_kc (t, r, m, z, N, ext, rx, L) I E 40 [some (.ref 452), some (.int v1), some (.int v2), some (.int v3), none] [] [] []) (b := q_kc (t, r, m, z, N, ext, rx, L) I E 6 [some (.ref 452), some (.int v1), some (.int v2), some (.int v3), none] [] [] []) (P := ((I 452) 6) ≤ v3) ok_X11_firstLike rfl q_cn (fun h1 => ?_) (fun h1 => ?_)
    · have hf := q_ip h1 hf
      refine q_less (ls' := [some (.ref 452), none, none, none, none]) (q_sb2 (q_sb1 (q_sb1 (q_sb1 (q_sb1 q_sb0))))) ?_
      cases hf
      exact q_Jpad [] [] rfl rfl (hK0 rfl)
    · have hf := q_in h1 hf
      refine q_blf 2 [] (a := q_kc (t, r, m, z, N, ext, rx, L) I E 40 [some (.ref 452), some (.int v1), some (.int v2), some (.int v3), none] [] [] []) (b := q_kc (t, r, m, z, N, ext, rx, L) I E 9 [some (.ref 452), some (.int v1), some (.int v2), some (.int v3), none] [] [] []) (P := (400 : Int32) < v3) ok_X11_firstLike rfl q_cn (fun h2 => ?_) (fun h2 => ?_)
      · have hf := q_ip h2 hf
        refine q_less (ls' := [some (.ref 452), none, none, none, none]) (q_sb2 (q_sb1 (q_sb1 (q_sb1 (q_sb1 q_sb0))))) ?_
        cases hf
        exact q_Jpad [] [] rfl rfl (hK0 rfl)
      · have hf := q_in h2 hf
        obtain ⟨j3, hj3, hf⟩ := q_bd hf
        refine q_blk 3 [] (c' := q_kc (t, r, m, z, N, ext, rx, L) I E 12 [some (.ref 452), some (.int v1), some (.int v2), some (.int v3), none] [.int v3, .ref 453] [] []) ok_X11_firstLike rfl q_cn ?_
        refine q_kaE (o := ((E 453) j3)) (pos' := 13) ok_X11_firstLike rfl rfl rfl hj3 rfl rfl rfl (fun hb5 => ?_) (fun b4 hb5 hl6 => ?_)
        · have hf := q_on0 hb5 hf
          refine q_blk 1 [] (c' := q_kc (t, r, m, z, N, ext, rx, L) I E 14 [some (.ref 452), some (.int v1), some (.int v2), some (.int v3), none] [.ref 3, .null] [] []) ok_X11_firstLike rfl q_cn ?_
          refine q_acmN ok_X11_firstLike rfl ?_
          refine q_blf 3 [] (a := q_kc (t, r, m, z, N, ext, rx, L) I E 38 [some (.ref 452), some (.int v1), some (.int v2), some (.int v3), some (.int (0 : Int32))] [] [] []) (b := q_kc (t, r, m, z, N, ext, rx, L) I E 27 [some (.ref 452), some (.int v1), some (.int v2), some (.int v3), some (.int (0 : Int32))] [] [] []) (P := (0 : Int32) = 0) ok_X11_firstLike rfl q_cn (fun h8 => ?_) (fun h8 => ?_)
          · have hf := q_ip h8 hf
            refine q_blk 2 [] (c' := q_kc (t, r, m, z, N, ext, rx, L) I E 2 [some (.ref 452), some (.int v1), some (.int v2), some (.int (v3 + 1)), some (.int (0 : Int32))] [] [] []) ok_X11_firstLike rfl q_cn ?_
            refine q_less (ls' := [some (.ref 452), some (.int v1), some (.int v2), some (.int (v3 + 1)), none]) (q_sb2 (q_sb2 (q_sb2 (q_sb2 (q_sb1 q_sb0))))) ?_
            exact ih (I := q_ws I []) (E := q_ws E []) hf (fun hz => q_Jmrg rfl rfl (hK0 hz)) (fun hz => q_Jmrg rfl rfl (hK1 hz))
          · have hf := q_in h8 hf
            obtain ⟨j9, hj9, hf⟩ := q_bd hf
            refine q_blk 7 [j9] (c' := q_kc (t, r, m, z, N, ext, rx, L) I E 34 [some (.ref 452), some (.int v1), some (.int v2), some (.int v3), some (.int (0 : Int32))] [.int v2, .int v1, .int ((I 454) j9), .ref 452] [] []) ok_X11_firstLike rfl (q_cc hj9 q_cn) ?_
            obtain ⟨r10, hr10, hf⟩ := q_bd hf
            refine q_kV (M2 := m_X11_isSame) (As := [.int ((I 454) j9), .int v1, .int v2]) (b := 452) (v2 := some (.int (q_bz r10))) ok_X11_firstLike ok_X11_isSame cv_X11_isSame (ct_X11_isSame_452 (d := 2) (Nat.le_refl _) hr10) rfl rfl (Or.inl rfl) rfl rfl rfl rfl (Nat.le_trans (Nat.le_of_ble_eq_true rfl) hd) hk hn (Nat.le_of_ble_eq_true rfl) (fun x hx => absurd hx List.not_mem_nil) (q_nmL0 _) (q_nmS0 _) rfl (pos' := 35) (st' := [.int (q_bz r10)]) (lI' := []) (lE' := []) rfl rfl rfl rfl ?_
            refine q_blf 0 [] (a := q_kc (t, r, m, z, N, ext, rx, L) I E 38 [some (.ref 452), some (.int v1), some (.int v2), some (.int v3), some (.int (0 : Int32))] [] [] []) (b := q_kc (t, r, m, z, N, ext, rx, L) I E 36 [some (.ref 452), some (.int v1), some (.int v2), some (.int v3), some (.int (0 : Int32))] [] [] []) (P := (q_bz r10) = 0) ok_X11_firstLike rfl q_cn (fun h11 => ?_) (fun h11 => ?_)
            · have hf := q_ip h11 hf
              refine q_blk 2 [] (c' := q_kc (t, r, m, z, N, ext, rx, L) I E 2 [some (.ref 452), some (.int v1), some (.int v2), some (.int (v3 + 1)), some (.int (0 : Int32))] [] [] []) ok_X11_firstLike rfl q_cn ?_
              refine q_less (ls' := [some (.ref 452), some (.int v1), some (.int v2), some (.int (v3 + 1)), none]) (q_sb2 (q_sb2 (q_sb2 (q_sb2 (q_sb1 q_sb0))))) ?_
              exact ih (I := q_ws I []) (E := q_ws E []) hf (fun hz => q_Jmrg rfl rfl (hK0 hz)) (fun hz => q_Jmrg rfl rfl (hK1 hz))
            · have hf := q_in h11 hf
              refine q_less (ls' := [none, none, none, some (.int v3), none]) (q_sb1 (q_sb1 (q_sb1 (q_sb2 (q_sb1 q_sb0))))) ?_
              cases hf
              exact q_Jpad [] [] rfl rfl (hK1 rfl)
        · have hf := q_on1 hb5 hf
          refine q_blk 1 [] (c' := q_kc (t, r, m, z, N, ext, rx, L) I E 14 [some (.ref 452), some (.int v1), some (.int v2), some (.int v3), none] [.ref 3, .ref b4] [] []) ok_X11_firstLike rfl q_cn ?_
          refine q_o_acmp_ne ok_X11_firstLike rfl hl6 (Nat.lt_of_lt_of_le (Nat.lt_succ_self _) (Nat.le_of_ble_eq_true rfl)) (fun h12 => ?_) (fun h12 => ?_)
          · have hf := q_in h12 hf
            refine q_blf 3 [] (a := q_kc (t, r, m, z, N, ext, rx, L) I E 38 [some (.ref 452), some (.int v1), some (.int v2), some (.int v3), some (.int (0 : Int32))] [] [] []) (b := q_kc (t, r, m, z, N, ext, rx, L) I E 27 [some (.ref 452), some (.int v1), some (.int v2), some (.int v3), some (.int (0 : Int32))] [] [] []) (P := (0 : Int32) = 0) ok_X11_firstLike rfl q_cn (fun h23 => ?_) (fun h23 => ?_)
            · have hf := q_ip h23 hf
              refine q_blk 2 [] (c' := q_kc (t, r, m, z, N, ext, rx, L) I E 2 [some (.ref 452), some (.int v1), some (.int v2), some (.int (v3 + 1)), some (.int (0 : Int32))] [] [] []) ok_X11_firstLike rfl q_cn ?_
              refine q_less (ls' := [some (.ref 452), some (.int v1), some (.int v2), some (.int (v3 + 1)), none]) (q_sb2 (q_sb2 (q_sb2 (q_sb2 (q_sb1 q_sb0))))) ?_
              exact ih (I := q_ws I []) (E := q_ws E []) hf (fun hz => q_Jmrg rfl rfl (hK0 hz)) (fun hz => q_Jmrg rfl rfl (hK1 hz))
            · have hf := q_in h23 hf
              obtain ⟨j24, hj24, hf⟩ := q_bd hf
              refine q_blk 7 [j24] (c' := q_kc (t, r, m, z, N, ext, rx, L) I E 34 [some (.ref 452), some (.int v1), some (.int v2), some (.int v3), some (.int (0 : Int32))] [.int v2, .int v1, .int ((I 454) j24), .ref 452] [] []) ok_X11_firstLike rfl (q_cc hj24 q_cn) ?_
              obtain ⟨r25, hr25, hf⟩ := q_bd hf
              refine q_kV (M2 := m_X11_isSame) (As := [.int ((I 454) j24), .int v1, .int v2]) (b := 452) (v2 := some (.int (q_bz r25))) ok_X11_firstLike ok_X11_isSame cv_X11_isSame (ct_X11_isSame_452 (d := 2) (Nat.le_refl _) hr25) rfl rfl (Or.inl rfl) rfl rfl rfl rfl (Nat.le_trans (Nat.le_of_ble_eq_true rfl) hd) hk hn (Nat.le_of_ble_eq_true rfl) (fun x hx => absurd hx List.not_mem_nil) (q_nmL0 _) (q_nmS0 _) rfl (pos' := 35) (st' := [.int (q_bz r25)]) (lI' := []) (lE' := []) rfl rfl rfl rfl ?_
              refine q_blf 0 [] (a := q_kc (t, r, m, z, N, ext, rx, L) I E 38 [some (.ref 452), some (.int v1), some (.int v2), some (.int v3), some (.int (0 : Int32))] [] [] []) (b := q_kc (t, r, m, z, N, ext, rx, L) I E 36 [some (.ref 452), some (.int v1), some (.int v2), some (.int v3), some (.int (0 : Int32))] [] [] []) (P := (q_bz r25) = 0) ok_X11_firstLike rfl q_cn (fun h26 => ?_) (fun h26 => ?_)
              · have hf := q_ip h26 hf
                refine q_blk 2 [] (c' := q_kc (t, r, m, z, N, ext, rx, L) I E 2 [some (.ref 452), some (.int v1), some (.int v2), some (.int (v3 + 1)), some (.int (0 : Int32))] [] [] []) ok_X11_firstLike rfl q_cn ?_
                refine q_less (ls' := [some (.ref 452), some (.int v1), some (.int v2), some (.int (v3 + 1)), none]) (q_sb2 (q_sb2 (q_sb2 (q_sb2 (q_sb1 q_sb0))))) ?_
                exact ih (I := q_ws I []) (E := q_ws E []) hf (fun hz => q_Jmrg rfl rfl (hK0 hz)) (fun hz => q_Jmrg rfl rfl (hK1 hz))
              · have hf := q_in h26 hf
                refine q_less (ls' := [none, none, none, some (.int v3), none]) (q_sb1 (q_sb1 (q_sb1 (q_sb2 (q_sb1 q_sb0))))) ?_
                cases hf
                exact q_Jpad [] [] rfl rfl (hK1 rfl)
          · have hf := q_ip h12 hf
            obtain ⟨j13, hj13, hf⟩ := q_bd hf
            refine q_blf 5 [j13] (a := q_kc (t, r, m, z, N, ext, rx, L) I E 23 [some (.ref 452), some (.int v1), some (.int v2), some (.int v3), none] [] [] []) (b := q_kc (t, r, m, z, N, ext, rx, L) I E 21 [some (.ref 452), some (.int v1), some (.int v2), some (.int v3), none] [] [] []) (P := ¬ ((I 455) j13) = v2) ok_X11_firstLike rfl (q_cc hj13 q_cn) (fun h14 => ?_) (fun h14 => ?_)
            · have hf := q_ip h14 hf
              refine q_blf 3 [] (a := q_kc (t, r, m, z, N, ext, rx, L) I E 38 [some (.ref 452), some (.int v1), some (.int v2), some (.int v3), some (.int (0 : Int32))] [] [] []) (b := q_kc (t, r, m, z, N, ext, rx, L) I E 27 [some (.ref 452), some (.int v1), some (.int v2), some (.int v3), some (.int (0 : Int32))] [] [] []) (P := (0 : Int32) = 0) ok_X11_firstLike rfl q_cn (fun h15 => ?_) (fun h15 => ?_)
              · have hf := q_ip h15 hf
                refine q_blk 2 [] (c' := q_kc (t, r, m, z, N, ext, rx, L) I E 2 [some (.ref 452), some (.int v1), some (.int v2), some (.int (v3 + 1)), some (.int (0 : Int32))] [] [] []) ok_X11_firstLike rfl q_cn ?_
                refine q_less (ls' := [some (.ref 452), some (.int v1), some (.int v2), some (.int (v3 + 1)), none]) (q_sb2 (q_sb2 (q_sb2 (q_sb2 (q_sb1 q_sb0))))) ?_
                exact ih (I := q_ws I []) (E := q_ws E []) hf (fun hz => q_Jmrg rfl rfl (hK0 hz)) (fun hz => q_Jmrg rfl rfl (hK1 hz))
              · have hf := q_in h15 hf
                obtain ⟨j16, hj16, hf⟩ := q_bd hf
                refine q_blk 7 [j16] (c' := q_kc (t, r, m, z, N, ext, rx, L) I E 34 [some (.ref 452), some (.int v1), some (.int v2), some (.int v3), some (.int (0 : Int32))] [.int v2, .int v1, .int ((I 454) j16), .ref 452] [] []) ok_X11_firstLike rfl (q_cc hj16 q_cn) ?_
                obtain ⟨r17, hr17, hf⟩ := q_bd hf
                refine q_kV (M2 := m_X11_isSame) (As := [.int ((I 454) j16), .int v1, .int v2]) (b := 452) (v2 := some (.int (q_bz r17))) ok_X11_firstLike ok_X11_isSame cv_X11_isSame (ct_X11_isSame_452 (d := 2) (Nat.le_refl _) hr17) rfl rfl (Or.inl rfl) rfl rfl rfl rfl (Nat.le_trans (Nat.le_of_ble_eq_true rfl) hd) hk hn (Nat.le_of_ble_eq_true rfl) (fun x hx => absurd hx List.not_mem_nil) (q_nmL0 _) (q_nmS0 _) rfl (pos' := 35) (st' := [.int (q_bz r17)]) (lI' := []) (lE' := []) rfl rfl rfl rfl ?_
                refine q_blf 0 [] (a := q_kc (t, r, m, z, N, ext, rx, L) I E 38 [some (.ref 452), some (.int v1), some (.int v2), some (.int v3), some (.int (0 : Int32))] [] [] []) (b := q_kc (t, r, m, z, N, ext, rx, L) I E 36 [some (.ref 452), some (.int v1), some (.int v2), some (.int v3), some (.int (0 : Int32))] [] [] []) (P := (q_bz r17) = 0) ok_X11_firstLike rfl q_cn (fun h18 => ?_) (fun h18 => ?_)
                · have hf := q_ip h18 hf
                  refine q_blk 2 [] (c' := q_kc (t, r, m, z, N, ext, rx, L) I E 2 [some (.ref 452), some (.int v1), some (.int v2), some (.int (v3 + 1)), some (.int (0 : Int32))] [] [] []) ok_X11_firstLike rfl q_cn ?_
                  refine q_less (ls' := [some (.ref 452), some (.int v1), some (.int v2), some (.int (v3 + 1)), none]) (q_sb2 (q_sb2 (q_sb2 (q_sb2 (q_sb1 q_sb0))))) ?_
                  exact ih (I := q_ws I []) (E := q_ws E []) hf (fun hz => q_Jmrg rfl rfl (hK0 hz)) (fun hz => q_Jmrg rfl rfl (hK1 hz))
                · have hf := q_in h18 hf
                  refine q_less (ls' := [none, none, none, some (.int v3), none]) (q_sb1 (q_sb1 (q_sb1 (q_sb2 (q_sb1 q_sb0))))) ?_
                  cases hf
                  exact q_Jpad [] [] rfl rfl (hK1 rfl)
            · have hf := q_in h14 hf
              refine q_blf 4 [] (a := q_kc (t, r, m, z, N, ext, rx, L) I E 38 [some (.ref 452), some (.int v1), some (.int v2), some (.int v3), some (.int (1 : Int32))] [] [] []) (b := q_kc (t, r, m, z, N, ext, rx, L) I E 27 [some (.ref 452), some (.int v1), some (.int v2), some (.int v3), some (.int (1 : Int32))] [] [] []) (P := (1 : Int32) = 0) ok_X11_firstLike rfl q_cn (fun h19 => ?_) (fun h19 => ?_)
              · have hf := q_ip h19 hf
                refine q_blk 2 [] (c' := q_kc (t, r, m, z, N, ext, rx, L) I E 2 [some (.ref 452), some (.int v1), some (.int v2), some (.int (v3 + 1)), some (.int (1 : Int32))] [] [] []) ok_X11_firstLike rfl q_cn ?_
                refine q_less (ls' := [some (.ref 452), some (.int v1), some (.int v2), some (.int (v3 + 1)), none]) (q_sb2 (q_sb2 (q_sb2 (q_sb2 (q_sb1 q_sb0))))) ?_
                exact ih (I := q_ws I []) (E := q_ws E []) hf (fun hz => q_Jmrg rfl rfl (hK0 hz)) (fun hz => q_Jmrg rfl rfl (hK1 hz))
              · have hf := q_in h19 hf
                obtain ⟨j20, hj20, hf⟩ := q_bd hf
                refine q_blk 7 [j20] (c' := q_kc (t, r, m, z, N, ext, rx, L) I E 34 [some (.ref 452), some (.int v1), some (.int v2), some (.int v3), some (.int (1 : Int32))] [.int v2, .int v1, .int ((I 454) j20), .ref 452] [] []) ok_X11_firstLike rfl (q_cc hj20 q_cn) ?_
                obtain ⟨r21, hr21, hf⟩ := q_bd hf
                refine q_kV (M2 := m_X11_isSame) (As := [.int ((I 454) j20), .int v1, .int v2]) (b := 452) (v2 := some (.int (q_bz r21))) ok_X11_firstLike ok_X11_isSame cv_X11_isSame (ct_X11_isSame_452 (d := 2) (Nat.le_refl _) hr21) rfl rfl (Or.inl rfl) rfl rfl rfl rfl (Nat.le_trans (Nat.le_of_ble_eq_true rfl) hd) hk hn (Nat.le_of_ble_eq_true rfl) (fun x hx => absurd hx List.not_mem_nil) (q_nmL0 _) (q_nmS0 _) rfl (pos' := 35) (st' := [.int (q_bz r21)]) (lI' := []) (lE' := []) rfl rfl rfl rfl ?_
                refine q_blf 0 [] (a := q_kc (t, r, m, z, N, ext, rx, L) I E 38 [some (.ref 452), some (.int v1), some (.int v2), some (.int v3), some (.int (1 : Int32))] [] [] []) (b := q_kc (t, r, m, z, N, ext, rx, L) I E 36 [some (.ref 452), some (.int v1), some (.int v2), some (.int v3), some (.int (1 : Int32))] [] [] []) (P := (q_bz r21) = 0) ok_X11_firstLike rfl q_cn (fun h22 => ?_) (fun h22 => ?_)
                · have hf := q_ip h22 hf
                  refine q_blk 2 [] (c' := q_kc (t, r, m, z, N, ext, rx, L) I E 2 [some (.ref 452), some (.int v1), some (.int v2), some (.int (v3 + 1)), some (.int (1 : Int32))] [] [] []) ok_X11_firstLike rfl q_cn ?_
                  refine q_less (ls' := [some (.ref 452), some (.int v1), some (.int v2), some (.int (v3 + 1)), none]) (q_sb2 (q_sb2 (q_sb2 (q_sb2 (q_sb1 q_sb0))))) ?_
                  exact ih (I := q_ws I []) (E := q_ws E []) hf (fun hz => q_Jmrg rfl rfl (hK0 hz)) (fun hz => q_Jmrg rfl rfl (hK1 hz))
                · have hf := q_in h22 hf
                  refine q_less (ls' := [none, none, none, some (.int v3), none]) (q_sb1 (q_sb1 (q_sb1 (q_sb2 (q_sb1 q_sb0))))) ?_
                  cases hf
                  exact q_Jpad [] [] rfl rfl (hK1 rfl)
set_option maxHeartbeats 4000000 in
theorem ct_X11_firstLike_452 {g : q_G} {t : Nat} {r : Nat} {m : Nat} {z : Nat} {N : Nat} {ext : Nat → q_Sh} {rx : Nat → Nat → Option Nat} {L : Nat → Nat → Int64} {d : Nat} (hd : 3 ≤ d)  {I : Nat → Nat → Int32} {E : Nat → Nat → Option Nat} {x1 : Int32} {x2 : Int32} {r0 : Int32} (hf : f_X11_firstLike (I 401) (I 452) (I 454) (I 455) (E 453) x1 x2 = some r0) : q_Ct g m_X11_firstLike d 0 0 [] [.ref 452, .int x1, .int x2] (q_hp (t, r, m, z, N, ext, rx, L) I E) (fun o h' => o = .inl (some (.int r0)) ∧ h' = q_hp (t, r, m, z, N, ext, rx, L) (q_ws I []) (q_ws E [])) := by
  rw [f_X11_firstLike] at hf
  refine q_Ct_of ok_X11_firstLike (Nat.le_of_ble_eq_true rfl) ?_ _ rfl rfl
  change q_J g m_X11_firstLike d 0 0 _ [] _ 0 0 (q_kc (t, r, m, z, N, ext, rx, L) I E 0 [some (.ref 452), some (.int x1), some (.int x2), none, none] [] [] [])
  refine q_blk 2 [] (c' := q_kc (t, r, m, z, N, ext, rx, L) I E 2 [some (.ref 452), some (.int x1), some (.int x2), some (.int (0 : Int32)), none] [] [] []) ok_X11_firstLike rfl q_cn ?_
  obtain ⟨r27, hr27, hf⟩ := q_bd hf
  refine lp_X11_firstLike_L2_452 (I := q_ws I []) (E := q_ws E []) hd (Nat.le_of_ble_eq_true rfl) (Nat.le_of_ble_eq_true rfl) 4096 hr27 ?_ ?_
  · intro hz0
    have hf := q_ip hz0 hf
    refine q_Jmrg (lI' := []) (lE' := []) rfl rfl ?_
    refine q_blk 2 [] (c' := q_kc (t, r, m, z, N, ext, rx, L) I E 42 [some (.ref 452), none, none, none, none] [.int ((I 452) 6)] [] []) ok_X11_firstLike rfl q_cn ?_
    cases hf
    exact q_kri ok_X11_firstLike rfl rfl rfl (Nat.le_of_ble_eq_true rfl) (Nat.le_of_ble_eq_true rfl) ⟨rfl, q_hpe (q_fin [] rfl) (q_fin [] rfl)⟩
  · intro hz1
    have hf := q_in (fun h9 => absurd (hz1.symm.trans h9) (by decide)) hf
    refine q_Jmrg (lI' := []) (lE' := []) rfl rfl ?_
    refine q_blk 1 [] (c' := q_kc (t, r, m, z, N, ext, rx, L) I E 37 [none, none, none, some (.int r27.2), none] [.int r27.2] [] []) ok_X11_firstLike rfl q_cn ?_
    cases hf
    exact q_kri ok_X11_firstLike rfl rfl rfl (Nat.le_of_ble_eq_true rfl) (Nat.le_of_ble_eq_true rfl) ⟨rfl, q_hpe (q_fin [] rfl) (q_fin [] rfl)⟩
set_option maxHeartbeats 4000000 in
theorem ct_X11_valueOf_452 {g : q_G} {t : Nat} {r : Nat} {m : Nat} {z : Nat} {N : Nat} {ext : Nat → q_Sh} {rx : Nat → Nat → Option Nat} {L : Nat → Nat → Int64} {d : Nat} (hd : 4 ≤ d)  {I : Nat → Nat → Int32} {E : Nat → Nat → Option Nat} {x1 : Nat} {x2 : Int32} {x3 : Int32} {r0 : Int32} (hf : f_X11_valueOf (I 401) (I 452) (I 454) (I 455) (E 453) x1 x2 x3 = some r0) : q_Ct g m_X11_valueOf d 0 0 [] [.ref 452, .ref x1, .int x2, .int x3] (q_hp (t, r, m, z, N, ext, rx, L) I E) (fun o h' => o = .inl (some (.int r0)) ∧ h' = q_hp (t, r, m, z, N, ext, rx, L) (q_ws I []) (q_ws E [])) := by
  rw [f_X11_valueOf] at hf
  refine q_Ct_of ok_X11_valueOf (Nat.le_of_ble_eq_true rfl) ?_ _ rfl rfl
  change q_J g m_X11_valueOf d 0 0 _ [] _ 0 0 (q_kc (t, r, m, z, N, ext, rx, L) I E 0 [some (.ref 452), some (.ref x1), some (.int x2), some (.int x3)] [] [] [])
  obtain ⟨ug1, hg1, hf⟩ := q_bd hf
  refine q_blk 2 [] (c' := q_kc (t, r, m, z, N, ext, rx, L) I E 2 [some (.ref 452), some (.ref x1), some (.int x2), some (.int x3)] [.ref 2, .ref x1] [] []) ok_X11_valueOf rfl q_cn ?_
  refine q_o_acmp_ne ok_X11_valueOf rfl (q_e49_lt hg1) (Nat.lt_of_lt_of_le (Nat.lt_succ_self _) (Nat.le_of_ble_eq_true rfl)) (fun h1 => ?_) (fun h1 => ?_)
  · have hf := q_in h1 hf
    refine q_blk 2 [] (c' := q_kc (t, r, m, z, N, ext, rx, L) I E 10 [some (.ref 452), some (.ref x1), some (.int x2), some (.int x3)] [.ref 3, .ref x1] [] []) ok_X11_valueOf rfl q_cn ?_
    refine q_o_acmp_ne ok_X11_valueOf rfl (q_e49_lt hg1) (Nat.lt_of_lt_of_le (Nat.lt_succ_self _) (Nat.le_of_ble_eq_true rfl)) (fun h3 => ?_) (fun h3 => ?_)
    · have hf := q_in h3 hf
      refine q_blk 1 [] (c' := q_kc (t, r, m, z, N, ext, rx, L) I E 17 [some (.ref 452), some (.ref x1), some (.int x2), some (.int x3)] [.int (0 : Int32)] [] []) ok_X11_valueOf rfl q_cn ?_
      cases hf
      exact q_kri ok_X11_valueOf rfl rfl rfl (Nat.le_of_ble_eq_true rfl) (Nat.le_of_ble_eq_true rfl) ⟨rfl, q_hpe (q_fin [] rfl) (q_fin [] rfl)⟩
    · have hf := q_ip h3 hf
      refine q_blk 3 [] (c' := q_kc (t, r, m, z, N, ext, rx, L) I E 14 [some (.ref 452), some (.ref x1), some (.int x2), some (.int x3)] [.int x3, .int x2, .ref 452] [] []) ok_X11_valueOf rfl q_cn ?_
      obtain ⟨r4, hr4, hf⟩ := q_bd hf
      refine q_kV (M2 := m_X11_firstLike) (As := [.int x2, .int x3]) (b := 452) (v2 := some (.int r4)) ok_X11_valueOf ok_X11_firstLike cv_X11_firstLike (ct_X11_firstLike_452 (d := 3) (Nat.le_refl _) hr4) rfl rfl (Or.inl rfl) rfl rfl rfl rfl (Nat.le_trans (Nat.le_of_ble_eq_true rfl) hd) (Nat.le_of_ble_eq_true rfl) (Nat.le_of_ble_eq_true rfl) (Nat.le_of_ble_eq_true rfl) (fun x hx => absurd hx List.not_mem_nil) (q_nmL0 _) (q_nmS0 _) rfl (pos' := 15) (st' := [.int r4]) (lI' := []) (lE' := []) rfl rfl rfl rfl ?_
      refine q_blk 1 [] (c' := q_kc (t, r, m, z, N, ext, rx, L) I E 17 [some (.ref 452), some (.ref x1), some (.int x2), some (.int x3)] [.int r4] [] []) ok_X11_valueOf rfl q_cn ?_
      cases hf
      exact q_kri ok_X11_valueOf rfl rfl rfl (Nat.le_of_ble_eq_true rfl) (Nat.le_of_ble_eq_true rfl) ⟨rfl, q_hpe (q_fin [] rfl) (q_fin [] rfl)⟩
  · have hf := q_ip h1 hf
    refine q_blk 3 [] (c' := q_kc (t, r, m, z, N, ext, rx, L) I E 6 [some (.ref 452), some (.ref x1), some (.int x2), some (.int x3)] [.int x3, .int x2, .ref 452] [] []) ok_X11_valueOf rfl q_cn ?_
    obtain ⟨r2, hr2, hf⟩ := q_bd hf
    refine q_kV (M2 := m_X11_numberAt) (As := [.int x2, .int x3]) (b := 452) (v2 := some (.int r2)) ok_X11_valueOf ok_X11_numberAt cv_X11_numberAt (ct_X11_numberAt_452 (d := 2) (Nat.le_refl _) hr2) rfl rfl (Or.inl rfl) rfl rfl rfl rfl (Nat.le_trans (Nat.le_of_ble_eq_true rfl) hd) (Nat.le_of_ble_eq_true rfl) (Nat.le_of_ble_eq_true rfl) (Nat.le_of_ble_eq_true rfl) (fun x hx => absurd hx List.not_mem_nil) (q_nmL0 _) (q_nmS0 _) rfl (pos' := 7) (st' := [.int r2]) (lI' := []) (lE' := []) rfl rfl rfl rfl ?_
    cases hf
    exact q_kri ok_X11_valueOf rfl rfl rfl (Nat.le_of_ble_eq_true rfl) (Nat.le_of_ble_eq_true rfl) ⟨rfl, q_hpe (q_fin [] rfl) (q_fin [] rfl)⟩
set_option maxHeartbeats 4000000 in
theorem ct_X11_add_452 {g : q_G} {t : Nat} {r : Nat} {m : Nat} {z : Nat} {N : Nat} {ext : Nat → q_Sh} {rx : Nat → Nat → Option Nat} {L : Nat → Nat → Int64} {d : Nat} (hd : 5 ≤ d)  {I : Nat → Nat → Int32} {E : Nat → Nat → Option Nat} {x1 : Nat} {x2 : Int32} {x3 : Int32} {r0 : (Nat → Int32) × (Nat → Int32) × (Nat → Int32) × (Nat → Int32) × (Nat → Option Nat)} (hf : f_X11_add (I 401) (I 452) (I 454) (I 455) (I 456) (E 453) x1 x2 x3 = some r0) : q_Ct g m_X11_add d 0 0 [] [.ref 452, .ref x1, .int x2, .int x3] (q_hp (t, r, m, z, N, ext, rx, L) I E) (fun o h' => o = .inl none ∧ h' = q_hp (t, r, m, z, N, ext, rx, L) (q_ws I [(452, r0.1), (454, r0.2.1), (455, r0.2.2.1), (456, r0.2.2.2.1)]) (q_ws E [(453, r0.2.2.2.2)])) := by
  rw [f_X11_add] at hf
  refine q_Ct_of ok_X11_add (Nat.le_of_ble_eq_true rfl) ?_ _ rfl rfl
  change q_J g m_X11_add d 0 0 _ [] _ 0 0 (q_kc (t, r, m, z, N, ext, rx, L) I E 0 [some (.ref 452), some (.ref x1), some (.int x2), some (.int x3)] [] [] [])
  obtain ⟨ug1, hg1, hf⟩ := q_bd hf
  refine q_blf 2 [] (a := q_kc (t, r, m, z, N, ext, rx, L) I E 41 [some (.ref 452), some (.ref x1), some (.int x2), some (.int x3)] [] [] []) (b := q_kc (t, r, m, z, N, ext, rx, L) I E 3 [some (.ref 452), some (.ref x1), some (.int x2), some (.int x3)] [] [] []) (P := ((I 452) 6) < 0) ok_X11_add rfl q_cn (fun h1 => ?_) (fun h1 => ?_)
  · have hf := q_ip h1 hf
    cases hf
    exact q_krv ok_X11_add rfl rfl (Nat.le_of_ble_eq_true rfl) (Nat.le_of_ble_eq_true rfl) ⟨rfl, q_hpe (q_fin [452, 454, 455, 456] rfl) (q_fin [453] rfl)⟩
  · have hf := q_in h1 hf
    refine q_blf 3 [] (a := q_kc (t, r, m, z, N, ext, rx, L) I E 41 [some (.ref 452), some (.ref x1), some (.int x2), some (.int x3)] [] [] []) (b := q_kc (t, r, m, z, N, ext, rx, L) I E 7 [some (.ref 452), some (.ref x1), some (.int x2), some (.int x3)] [] [] []) (P := (400 : Int32) < ((I 452) 6)) ok_X11_add rfl q_cn (fun h2 => ?_) (fun h2 => ?_)
    · have hf := q_ip h2 hf
      cases hf
      exact q_krv ok_X11_add rfl rfl (Nat.le_of_ble_eq_true rfl) (Nat.le_of_ble_eq_true rfl) ⟨rfl, q_hpe (q_fin [452, 454, 455, 456] rfl) (q_fin [453] rfl)⟩
    · have hf := q_in h2 hf
      obtain ⟨j3, hj3, hf⟩ := q_bd hf
      refine q_blk 5 [] (c' := q_kc (t, r, m, z, N, ext, rx, L) I E 12 [some (.ref 452), some (.ref x1), some (.int x2), some (.int x3)] [.ref x1, .int ((I 452) 6), .ref 453] [] []) ok_X11_add rfl q_cn ?_
      refine q_kaS (pos' := 13) (lE' := [(453, (q_up (E 453) j3 (some x1)))]) ok_X11_add rfl rfl rfl hj3 rfl (q_e49_lt hg1) rfl rfl ?_
      obtain ⟨j4, hj4, hf⟩ := q_bd hf
      obtain ⟨j5, hj5, hf⟩ := q_bd hf
      refine q_blk 20 [j4, j5] (c' := q_kc (t, r, m, z, N, ext, rx, L) I E 33 [some (.ref 452), some (.ref x1), some (.int x2), some (.int x3)] [.int x3, .int x2, .ref x1, .ref 452, .int ((I 452) 6), .ref 456] [(454, (q_up (I 454) j4 x2)), (455, (q_up (I 455) j5 x3))] [(453, (q_up (E 453) j3 (some x1)))]) ok_X11_add rfl (q_cc hj5 (q_cc hj4 q_cn)) ?_
      obtain ⟨r6, hr6, hf⟩ := q_bd hf
      refine q_kV (M2 := m_X11_valueOf) (As := [.ref x1, .int x2, .int x3]) (b := 452) (v2 := some (.int r6)) ok_X11_add ok_X11_valueOf cv_X11_valueOf (ct_X11_valueOf_452 (d := 4) (Nat.le_refl _) hr6) rfl rfl (Or.inl rfl) rfl rfl rfl rfl (Nat.le_trans (Nat.le_of_ble_eq_true rfl) hd) (Nat.le_of_ble_eq_true rfl) (Nat.le_of_ble_eq_true rfl) (Nat.le_of_ble_eq_true rfl) (fun x hx => absurd hx List.not_mem_nil) (q_nmL0 _) (q_nmS0 _) rfl (pos' := 34) (st' := [.int r6, .int ((I 452) 6), .ref 456]) (lI' := [(454, (q_up (I 454) j4 x2)), (455, (q_up (I 455) j5 x3))]) (lE' := [(453, (q_up (E 453) j3 (some x1)))]) rfl rfl rfl rfl ?_
      obtain ⟨j7, hj7, hf⟩ := q_bd hf
      refine q_blk 7 [j7] (c' := q_kc (t, r, m, z, N, ext, rx, L) I E 41 [some (.ref 452), some (.ref x1), some (.int x2), some (.int x3)] [] [(452, (q_up (I 452) 6 (((I 452) 6) + (1 : Int32)))), (454, (q_up (I 454) j4 x2)), (455, (q_up (I 455) j5 x3)), (456, (q_up (I 456) j7 r6))] [(453, (q_up (E 453) j3 (some x1)))]) ok_X11_add rfl (q_cc hj7 q_cn) ?_
      cases hf
      exact q_krv ok_X11_add rfl rfl (Nat.le_of_ble_eq_true rfl) (Nat.le_of_ble_eq_true rfl) ⟨rfl, q_hpe (q_fin [452, 454, 455, 456] rfl) (q_fin [453] rfl)⟩
set_option maxHeartbeats 4000000 in
theorem lp_X11_split_L12_452 {g : q_G} {d mc ms : Nat} {h0 : q_H} {Q : (Option Value ⊕ String) → q_H → Prop} {k n : Nat} {t : Nat} {r : Nat} {m : Nat} {z : Nat} {N : Nat} {ext : Nat → q_Sh} {rx : Nat → Nat → Option Nat} {L : Nat → Nat → Int64} (hd : 12 ≤ d) (hk : k ≤ mc) (hn : n ≤ ms)  : ∀ (fu : Nat) {I : Nat → Nat → Int32} {E : Nat → Nat → Option Nat} {v2 : Int32} {v3 : Int32} {r0 : Nat × Int32 × (Nat → Int32) × (Nat → Int32) × (Nat → Int32) × (Nat → Int32) × (Nat → Option Nat)} (hf : f_X11_split_L12 (I 401) fu (I 452) (I 454) (I 455) (I 456) (E 453) v2 v3 = some r0) (hK0 : r0.1 = 0 → q_J g m_X11_split d mc ms h0 [] Q k n (q_kc (t, r, m, z, N, ext, rx, L) I E 42 [some (.ref 452), none, some (.int r0.2.1), none, none] [] [(452, r0.2.2.1), (454, r0.2.2.2.1), (455, r0.2.2.2.2.1), (456, r0.2.2.2.2.2.1)] [(453, r0.2.2.2.2.2.2)])) (hK1 : r0.1 = 1 → q_J g m_X11_split d mc ms h0 [] Q k n (q_kc (t, r, m, z, N, ext, rx, L) I E 25 [some (.ref 452), none, some (.int r0.2.1), none, none] [] [(452, r0.2.2.1), (454, r0.2.2.2.1), (455, r0.2.2.2.2.1), (456, r0.2.2.2.2.2.1)] [(453, r0.2.2.2.2.2.2)])), q_J g m_X11_split d mc ms h0 [] Q k n (12, [some (.ref 452), none, some (.int v2), some (.int v3), none], [], q_hp (t, r, m, z, N, ext, rx, L) I E) := by
  intro fu
  induction fu with
  | zero =>
    intro I E v2 v3 r0 hf hK0 hK1
    rw [f_X11_split_L12] at hf
    cases hf
  | succ fu ih =>
    intro I E v2 v3 r0 hf hK0 hK1
    rw [f_X11_split_L12] at hf
    change q_J g m_X11_split d mc ms h0 [] Q k n (q_kc (t, r, m, z, N, ext, rx, L) I E 12 [some (.ref 452), none, some (.int v2), some (.int v3), none] [] [] [])
    refine q_blf 2 [] (a := q_kc (t, r, m, z, N, ext, rx, L) I E 42 [some (.ref 452), none, some (.int v2), some (.int v3), none] [] [] []) (b := q_kc (t, r, m, z, N, ext, rx, L) I E 15 [some (.ref 452), none, some (.int v2), some (.int v3), none] [] [] []) (P := (400 : Int32) ≤ v3) ok_X11_split rfl q_cn (fun h1 => ?_) (fun h1 => ?_)
    · have hf := q_ip h1 hf
      refine q_less (ls' := [some (.ref 452), none, some (.int v2), none, none]) (q_sb2 (q_sb1 (q_sb2 (q_sb1 (q_sb1 q_sb0))))) ?_
      cases hf
      exact q_Jpad [452, 454, 455, 456] [453] rfl rfl (hK0 rfl)
    · have hf := q_in h1 hf
      refine q_blf 3 [] (a := q_kc (t, r, m, z, N, ext, rx, L) I E 42 [some (.ref 452), none, some (.int v2), some (.int v3), none] [] [] []) (b := q_kc (t, r, m, z, N, ext, rx, L) I E 19 [some (.ref 452), none, some (.int v2), some (.int v3), none] [] [] []) (P := ((I 452) 5) ≤ v2) ok_X11_split rfl q_cn (fun h2 => ?_) (fun h2 => ?_)
      · have hf := q_ip h2 hf
        refine q_less (ls' := [some (.ref 452), none, some (.int v2), none, none]) (q_sb2 (q_sb1 (q_sb2 (q_sb1 (q_sb1 q_sb0))))) ?_
        cases hf
        exact q_Jpad [452, 454, 455, 456] [453] rfl rfl (hK0 rfl)
      · have hf := q_in h2 hf
        refine q_blk 2 [] (c' := q_kc (t, r, m, z, N, ext, rx, L) I E 21 [some (.ref 452), none, some (.int v2), some (.int v3), none] [.int v2, .ref 452] [] []) ok_X11_split rfl q_cn ?_
        obtain ⟨r3, hr3, hf⟩ := q_bd hf
        refine q_kV (M2 := m_X11_tokenLength) (As := [.int v2]) (b := 452) (v2 := some (.int r3)) ok_X11_split ok_X11_tokenLength cv_X11_tokenLength (ct_X11_tokenLength_452 (d := 11) (Nat.le_refl _) hr3) rfl rfl (Or.inl rfl) rfl rfl rfl rfl (Nat.le_trans (Nat.le_of_ble_eq_true rfl) hd) hk hn (Nat.le_of_ble_eq_true rfl) (fun x hx => absurd hx List.not_mem_nil) (q_nmL0 _) (q_nmS0 _) rfl (pos' := 22) (st' := [.int r3]) (lI' := []) (lE' := []) rfl rfl rfl rfl ?_
        refine q_blf 2 [] (a := q_kc (t, r, m, z, N, ext, rx, L) I E 26 [some (.ref 452), none, some (.int v2), some (.int v3), some (.int r3)] [] [] []) (b := q_kc (t, r, m, z, N, ext, rx, L) I E 25 [some (.ref 452), none, some (.int v2), some (.int v3), some (.int r3)] [] [] []) (P := ¬ r3 = 0) ok_X11_split rfl q_cn (fun h4 => ?_) (fun h4 => ?_)
        · have hf := q_ip h4 hf
          refine q_blk 4 [] (c' := q_kc (t, r, m, z, N, ext, rx, L) I E 30 [some (.ref 452), none, some (.int v2), some (.int v3), some (.int r3)] [.int r3, .int v2, .ref 452, .ref 452] [] []) ok_X11_split rfl q_cn ?_
          obtain ⟨r5, hr5, hf⟩ := q_bd hf
          obtain ⟨u6, hu7, hf⟩ := q_bd hf
          refine q_kV (M2 := m_X11_tokenSign) (As := [.int v2, .int r3]) (b := 452) (v2 := some (.ref r5)) ok_X11_split ok_X11_tokenSign cv_X11_tokenSign (ct_X11_tokenSign_452 (d := 11) (Nat.le_refl _) hr5) rfl rfl (Or.inl rfl) rfl rfl rfl rfl (Nat.le_trans (Nat.le_of_ble_eq_true rfl) hd) hk hn (Nat.le_of_ble_eq_true rfl) (fun x hx => absurd hx List.not_mem_nil) (q_nmL0 _) (q_nmS0 _) rfl (pos' := 31) (st' := [.ref r5, .ref 452]) (lI' := []) (lE' := []) rfl rfl rfl rfl ?_
          refine q_blk 2 [] (c' := q_kc (t, r, m, z, N, ext, rx, L) I E 33 [some (.ref 452), none, some (.int v2), some (.int v3), some (.int r3)] [.int r3, .int v2, .ref r5, .ref 452] [] []) ok_X11_split rfl q_cn ?_
          obtain ⟨r8, hr8, hf⟩ := q_bd hf
          refine q_kV (M2 := m_X11_add) (As := [.ref r5, .int v2, .int r3]) (b := 452) (v2 := none) ok_X11_split ok_X11_add cv_X11_add (ct_X11_add_452 (d := 5) (Nat.le_refl _) hr8) rfl rfl (Or.inl rfl) rfl rfl rfl rfl (Nat.le_trans (Nat.le_of_ble_eq_true rfl) hd) hk hn (Nat.le_of_ble_eq_true rfl) (fun x hx => absurd hx List.not_mem_nil) (q_nmL0 _) (q_nmS0 _) rfl (pos' := 34) (st' := []) (lI' := [(452, r8.1), (454, r8.2.1), (455, r8.2.2.1), (456, r8.2.2.2.1)]) (lE' := [(453, r8.2.2.2.2)]) rfl rfl rfl rfl ?_
          refine q_blk 4 [] (c' := q_kc (t, r, m, z, N, ext, rx, L) I E 38 [some (.ref 452), none, some (.int v2), some (.int v3), some (.int r3)] [.int (v2 + r3), .ref 452] [(452, r8.1), (454, r8.2.1), (455, r8.2.2.1), (456, r8.2.2.2.1)] [(453, r8.2.2.2.2)]) ok_X11_split rfl q_cn ?_
          obtain ⟨r9, hr9, hf⟩ := q_bd hf
          refine q_kV (M2 := m_X11_behindBlanks) (As := [.int (v2 + r3)]) (b := 452) (v2 := some (.int r9)) ok_X11_split ok_X11_behindBlanks cv_X11_behindBlanks (ct_X11_behindBlanks_452 (d := 2) (Nat.le_refl _) hr9) rfl rfl (Or.inl rfl) rfl rfl rfl rfl (Nat.le_trans (Nat.le_of_ble_eq_true rfl) hd) hk hn (Nat.le_of_ble_eq_true rfl) (fun x hx => absurd hx List.not_mem_nil) (q_nmL0 _) (q_nmS0 _) rfl (pos' := 39) (st' := [.int r9]) (lI' := [(452, r8.1), (454, r8.2.1), (455, r8.2.2.1), (456, r8.2.2.2.1)]) (lE' := [(453, r8.2.2.2.2)]) rfl rfl rfl rfl ?_
          refine q_blk 3 [] (c' := q_kc (t, r, m, z, N, ext, rx, L) I E 12 [some (.ref 452), none, some (.int r9), some (.int (v3 + 1)), some (.int r3)] [] [(452, r8.1), (454, r8.2.1), (455, r8.2.2.1), (456, r8.2.2.2.1)] [(453, r8.2.2.2.2)]) ok_X11_split rfl q_cn ?_
          refine q_less (ls' := [some (.ref 452), none, some (.int r9), some (.int (v3 + 1)), none]) (q_sb2 (q_sb1 (q_sb2 (q_sb2 (q_sb1 q_sb0))))) ?_
          exact ih (I := q_ws I [(452, r8.1), (454, r8.2.1), (455, r8.2.2.1), (456, r8.2.2.2.1)]) (E := q_ws E [(453, r8.2.2.2.2)]) hf (fun hz => q_Jmrg rfl rfl (hK0 hz)) (fun hz => q_Jmrg rfl rfl (hK1 hz))
        · have hf := q_in h4 hf
          refine q_less (ls' := [some (.ref 452), none, some (.int v2), none, none]) (q_sb2 (q_sb1 (q_sb2 (q_sb1 (q_sb1 q_sb0))))) ?_
          cases hf
          exact q_Jpad [452, 454, 455, 456] [453] rfl rfl (hK1 rfl)
set_option maxHeartbeats 4000000 in
theorem ct_X11_split_452 {g : q_G} {t : Nat} {r : Nat} {m : Nat} {z : Nat} {N : Nat} {ext : Nat → q_Sh} {rx : Nat → Nat → Option Nat} {L : Nat → Nat → Int64} {d : Nat} (hd : 12 ≤ d)  {I : Nat → Nat → Int32} {E : Nat → Nat → Option Nat} {x1 : Int32} {r0 : (Nat → Int32) × (Nat → Int32) × (Nat → Int32) × (Nat → Int32) × (Nat → Option Nat)} (hf : f_X11_split (I 401) (I 452) (I 454) (I 455) (I 456) (E 453) x1 = some r0) : q_Ct g m_X11_split d 0 0 [] [.ref 452, .int x1] (q_hp (t, r, m, z, N, ext, rx, L) I E) (fun o h' => o = .inl none ∧ h' = q_hp (t, r, m, z, N, ext, rx, L) (q_ws I [(452, r0.1), (454, r0.2.1), (455, r0.2.2.1), (456, r0.2.2.2.1)]) (q_ws E [(453, r0.2.2.2.2)])) := by
  rw [f_X11_split] at hf
  refine q_Ct_of ok_X11_split (Nat.le_of_ble_eq_true rfl) ?_ _ rfl rfl
  change q_J g m_X11_split d 0 0 _ [] _ 0 0 (q_kc (t, r, m, z, N, ext, rx, L) I E 0 [some (.ref 452), some (.int x1), none, none, none] [] [] [])
  refine q_blk 8 [] (c' := q_kc (t, r, m, z, N, ext, rx, L) I E 8 [some (.ref 452), some (.int x1), none, none, none] [.int (0 : Int32), .ref 452] [(452, (q_up (q_up (I 452) 5 x1) 6 (0 : Int32)))] []) ok_X11_split rfl q_cn ?_
  obtain ⟨r10, hr10, hf⟩ := q_bd hf
  refine q_kV (M2 := m_X11_behindBlanks) (As := [.int (0 : Int32)]) (b := 452) (v2 := some (.int r10)) ok_X11_split ok_X11_behindBlanks cv_X11_behindBlanks (ct_X11_behindBlanks_452 (d := 2) (Nat.le_refl _) hr10) rfl rfl (Or.inl rfl) rfl rfl rfl rfl (Nat.le_trans (Nat.le_of_ble_eq_true rfl) hd) (Nat.le_of_ble_eq_true rfl) (Nat.le_of_ble_eq_true rfl) (Nat.le_of_ble_eq_true rfl) (fun x hx => absurd hx List.not_mem_nil) (q_nmL0 _) (q_nmS0 _) rfl (pos' := 9) (st' := [.int r10]) (lI' := [(452, (q_up (q_up (I 452) 5 x1) 6 (0 : Int32)))]) (lE' := []) rfl rfl rfl rfl ?_
  refine q_blk 3 [] (c' := q_kc (t, r, m, z, N, ext, rx, L) I E 12 [some (.ref 452), some (.int x1), some (.int r10), some (.int (0 : Int32)), none] [] [(452, (q_up (q_up (I 452) 5 x1) 6 (0 : Int32)))] []) ok_X11_split rfl q_cn ?_
  refine q_less (ls' := [some (.ref 452), none, some (.int r10), some (.int (0 : Int32)), none]) (q_sb2 (q_sb1 (q_sb2 (q_sb2 (q_sb1 q_sb0))))) ?_
  obtain ⟨r11, hr11, hf⟩ := q_bd hf
  refine lp_X11_split_L12_452 (I := q_ws I [(452, (q_up (q_up (I 452) 5 x1) 6 (0 : Int32)))]) (E := q_ws E []) hd (Nat.le_of_ble_eq_true rfl) (Nat.le_of_ble_eq_true rfl) 4096 hr11 ?_ ?_
  · intro hz0
    have hf := q_ip hz0 hf
    refine q_Jmrg (lI' := [(452, r11.2.2.1), (454, r11.2.2.2.1), (455, r11.2.2.2.2.1), (456, r11.2.2.2.2.2.1)]) (lE' := [(453, r11.2.2.2.2.2.2)]) rfl rfl ?_
    refine q_blf 4 [] (a := q_kc (t, r, m, z, N, ext, rx, L) I E 49 [some (.ref 452), none, some (.int r11.2.1), none, none] [.ref 452] [(452, r11.2.2.1), (454, r11.2.2.2.1), (455, r11.2.2.2.2.1), (456, r11.2.2.2.2.2.1)] [(453, r11.2.2.2.2.2.2)]) (b := q_kc (t, r, m, z, N, ext, rx, L) I E 47 [some (.ref 452), none, some (.int r11.2.1), none, none] [.ref 452] [(452, r11.2.2.1), (454, r11.2.2.2.1), (455, r11.2.2.2.2.1), (456, r11.2.2.2.2.2.1)] [(453, r11.2.2.2.2.2.2)]) (P := (r11.2.2.1 5) ≤ r11.2.1) ok_X11_split rfl q_cn (fun h12 => ?_) (fun h12 => ?_)
    · have hf := q_ip h12 hf
      refine q_blk 3 [] (c' := q_kc (t, r, m, z, N, ext, rx, L) I E 52 [some (.ref 452), none, some (.int r11.2.1), none, none] [.int (0 : Int32), .int r11.2.1, .ref 0, .ref 452] [(452, r11.2.2.1), (454, r11.2.2.2.1), (455, r11.2.2.2.2.1), (456, r11.2.2.2.2.2.1)] [(453, r11.2.2.2.2.2.2)]) ok_X11_split rfl q_cn ?_
      obtain ⟨r13, hr13, hf⟩ := q_bd hf
      refine q_kV (M2 := m_X11_add) (As := [.ref 0, .int r11.2.1, .int (0 : Int32)]) (b := 452) (v2 := none) ok_X11_split ok_X11_add cv_X11_add (ct_X11_add_452 (d := 5) (Nat.le_refl _) hr13) rfl rfl (Or.inl rfl) rfl rfl rfl rfl (Nat.le_trans (Nat.le_of_ble_eq_true rfl) hd) (Nat.le_of_ble_eq_true rfl) (Nat.le_of_ble_eq_true rfl) (Nat.le_of_ble_eq_true rfl) (fun x hx => absurd hx List.not_mem_nil) (q_nmL0 _) (q_nmS0 _) rfl (pos' := 53) (st' := []) (lI' := [(452, r13.1), (454, r13.2.1), (455, r13.2.2.1), (456, r13.2.2.2.1)]) (lE' := [(453, r13.2.2.2.2)]) rfl rfl rfl rfl ?_
      cases hf
      exact q_krv ok_X11_split rfl rfl (Nat.le_of_ble_eq_true rfl) (Nat.le_of_ble_eq_true rfl) ⟨rfl, q_hpe (q_fin [452, 454, 455, 456] rfl) (q_fin [453] rfl)⟩
    · have hf := q_in h12 hf
      refine q_blk 4 [] (c' := q_kc (t, r, m, z, N, ext, rx, L) I E 52 [some (.ref 452), none, some (.int r11.2.1), none, none] [.int (0 : Int32), .int r11.2.1, .ref 1, .ref 452] [(452, r11.2.2.1), (454, r11.2.2.2.1), (455, r11.2.2.2.2.1), (456, r11.2.2.2.2.2.1)] [(453, r11.2.2.2.2.2.2)]) ok_X11_split rfl q_cn ?_
      obtain ⟨r14, hr14, hf⟩ := q_bd hf
      refine q_kV (M2 := m_X11_add) (As := [.ref 1, .int r11.2.1, .int (0 : Int32)]) (b := 452) (v2 := none) ok_X11_split ok_X11_add cv_X11_add (ct_X11_add_452 (d := 5) (Nat.le_refl _) hr14) rfl rfl (Or.inl rfl) rfl rfl rfl rfl (Nat.le_trans (Nat.le_of_ble_eq_true rfl) hd) (Nat.le_of_ble_eq_true rfl) (Nat.le_of_ble_eq_true rfl) (Nat.le_of_ble_eq_true rfl) (fun x hx => absurd hx List.not_mem_nil) (q_nmL0 _) (q_nmS0 _) rfl (pos' := 53) (st' := []) (lI' := [(452, r14.1), (454, r14.2.1), (455, r14.2.2.1), (456, r14.2.2.2.1)]) (lE' := [(453, r14.2.2.2.2)]) rfl rfl rfl rfl ?_
      cases hf
      exact q_krv ok_X11_split rfl rfl (Nat.le_of_ble_eq_true rfl) (Nat.le_of_ble_eq_true rfl) ⟨rfl, q_hpe (q_fin [452, 454, 455, 456] rfl) (q_fin [453] rfl)⟩
  · intro hz1
    have hf := q_in (fun h9 => absurd (hz1.symm.trans h9) (by decide)) hf
    refine q_Jmrg (lI' := [(452, r11.2.2.1), (454, r11.2.2.2.1), (455, r11.2.2.2.2.1), (456, r11.2.2.2.2.2.1)]) (lE' := [(453, r11.2.2.2.2.2.2)]) rfl rfl ?_
    refine q_blf 5 [] (a := q_kc (t, r, m, z, N, ext, rx, L) I E 49 [some (.ref 452), none, some (.int r11.2.1), none, none] [.ref 452] [(452, r11.2.2.1), (454, r11.2.2.2.1), (455, r11.2.2.2.2.1), (456, r11.2.2.2.2.2.1)] [(453, r11.2.2.2.2.2.2)]) (b := q_kc (t, r, m, z, N, ext, rx, L) I E 47 [some (.ref 452), none, some (.int r11.2.1), none, none] [.ref 452] [(452, r11.2.2.1), (454, r11.2.2.2.1), (455, r11.2.2.2.2.1), (456, r11.2.2.2.2.2.1)] [(453, r11.2.2.2.2.2.2)]) (P := (r11.2.2.1 5) ≤ r11.2.1) ok_X11_split rfl q_cn (fun h15 => ?_) (fun h15 => ?_)
    · have hf := q_ip h15 hf
      refine q_blk 3 [] (c' := q_kc (t, r, m, z, N, ext, rx, L) I E 52 [some (.ref 452), none, some (.int r11.2.1), none, none] [.int (0 : Int32), .int r11.2.1, .ref 0, .ref 452] [(452, r11.2.2.1), (454, r11.2.2.2.1), (455, r11.2.2.2.2.1), (456, r11.2.2.2.2.2.1)] [(453, r11.2.2.2.2.2.2)]) ok_X11_split rfl q_cn ?_
      obtain ⟨r16, hr16, hf⟩ := q_bd hf
      refine q_kV (M2 := m_X11_add) (As := [.ref 0, .int r11.2.1, .int (0 : Int32)]) (b := 452) (v2 := none) ok_X11_split ok_X11_add cv_X11_add (ct_X11_add_452 (d := 5) (Nat.le_refl _) hr16) rfl rfl (Or.inl rfl) rfl rfl rfl rfl (Nat.le_trans (Nat.le_of_ble_eq_true rfl) hd) (Nat.le_of_ble_eq_true rfl) (Nat.le_of_ble_eq_true rfl) (Nat.le_of_ble_eq_true rfl) (fun x hx => absurd hx List.not_mem_nil) (q_nmL0 _) (q_nmS0 _) rfl (pos' := 53) (st' := []) (lI' := [(452, r16.1), (454, r16.2.1), (455, r16.2.2.1), (456, r16.2.2.2.1)]) (lE' := [(453, r16.2.2.2.2)]) rfl rfl rfl rfl ?_
      cases hf
      exact q_krv ok_X11_split rfl rfl (Nat.le_of_ble_eq_true rfl) (Nat.le_of_ble_eq_true rfl) ⟨rfl, q_hpe (q_fin [452, 454, 455, 456] rfl) (q_fin [453] rfl)⟩
    · have hf := q_in h15 hf
      refine q_blk 4 [] (c' := q_kc (t, r, m, z, N, ext, rx, L) I E 52 [some (.ref 452), none, some (.int r11.2.1), none, none] [.int (0 : Int32), .int r11.2.1, .ref 1, .ref 452] [(452, r11.2.2.1), (454, r11.2.2.2.1), (455, r11.2.2.2.2.1), (456, r11.2.2.2.2.2.1)] [(453, r11.2.2.2.2.2.2)]) ok_X11_split rfl q_cn ?_
      obtain ⟨r17, hr17, hf⟩ := q_bd hf
      refine q_kV (M2 := m_X11_add) (As := [.ref 1, .int r11.2.1, .int (0 : Int32)]) (b := 452) (v2 := none) ok_X11_split ok_X11_add cv_X11_add (ct_X11_add_452 (d := 5) (Nat.le_refl _) hr17) rfl rfl (Or.inl rfl) rfl rfl rfl rfl (Nat.le_trans (Nat.le_of_ble_eq_true rfl) hd) (Nat.le_of_ble_eq_true rfl) (Nat.le_of_ble_eq_true rfl) (Nat.le_of_ble_eq_true rfl) (fun x hx => absurd hx List.not_mem_nil) (q_nmL0 _) (q_nmS0 _) rfl (pos' := 53) (st' := []) (lI' := [(452, r17.1), (454, r17.2.1), (455, r17.2.2.1), (456, r17.2.2.2.1)]) (lE' := [(453, r17.2.2.2.2)]) rfl rfl rfl rfl ?_
      cases hf
      exact q_krv ok_X11_split rfl rfl (Nat.le_of_ble_eq_true rfl) (Nat.le_of_ble_eq_true rfl) ⟨rfl, q_hpe (q_fin [452, 454, 455, 456] rfl) (q_fin [453] rfl)⟩
set_option maxHeartbeats 4000000 in
theorem ct_X6_clear_426 {g : q_G} {t : Nat} {r : Nat} {m : Nat} {z : Nat} {N : Nat} {ext : Nat → q_Sh} {rx : Nat → Nat → Option Nat} {L : Nat → Nat → Int64} {d : Nat} (hd : 1 ≤ d)  {I : Nat → Nat → Int32} {E : Nat → Nat → Option Nat} {r0 : (Nat → Int32)} (hf : f_X6_clear (I 426) = some r0) : q_Ct g m_X6_clear d 0 0 [] [.ref 426] (q_hp (t, r, m, z, N, ext, rx, L) I E) (fun o h' => o = .inl none ∧ h' = q_hp (t, r, m, z, N, ext, rx, L) (q_ws I [(426, r0)]) (q_ws E [])) := by
  rw [f_X6_clear] at hf
  refine q_Ct_of ok_X6_clear (Nat.le_of_ble_eq_true rfl) ?_ _ rfl rfl
  change q_J g m_X6_clear d 0 0 _ [] _ 0 0 (q_kc (t, r, m, z, N, ext, rx, L) I E 0 [some (.ref 426)] [] [] [])
  refine q_blk 18 [] (c' := q_kc (t, r, m, z, N, ext, rx, L) I E 18 [some (.ref 426)] [] [(426, (q_up (q_up (q_up (q_up (q_up (q_up (I 426) 0 (16 : Int32)) 1 (16 : Int32)) 2 (2 : Int32)) 3 (0 : Int32)) 4 (0 : Int32)) 5 (0 : Int32)))] []) ok_X6_clear rfl q_cn ?_
  cases hf
  exact q_krv ok_X6_clear rfl rfl (Nat.le_of_ble_eq_true rfl) (Nat.le_of_ble_eq_true rfl) ⟨rfl, q_hpe (q_fin [426] rfl) (q_fin [] rfl)⟩
set_option maxHeartbeats 4000000 in
theorem ct_X11_sign_452 {g : q_G} {t : Nat} {r : Nat} {m : Nat} {z : Nat} {N : Nat} {ext : Nat → q_Sh} {rx : Nat → Nat → Option Nat} {L : Nat → Nat → Int64} {d : Nat} (hd : 1 ≤ d)  {I : Nat → Nat → Int32} {E : Nat → Nat → Option Nat} {x1 : Int32} {r0 : Nat} (hf : f_X11_sign (I 452) (E 453) x1 = some r0) : q_Ct g m_X11_sign d 0 0 [] [.ref 452, .int x1] (q_hp (t, r, m, z, N, ext, rx, L) I E) (fun o h' => o = .inl (some (.ref r0)) ∧ h' = q_hp (t, r, m, z, N, ext, rx, L) (q_ws I []) (q_ws E [])) := by
  rw [f_X11_sign] at hf
  refine q_Ct_of ok_X11_sign (Nat.le_of_ble_eq_true rfl) ?_ _ rfl rfl
  change q_J g m_X11_sign d 0 0 _ [] _ 0 0 (q_kc (t, r, m, z, N, ext, rx, L) I E 0 [some (.ref 452), some (.int x1), none] [] [] [])
  refine q_blf 1 [] (a := q_kc (t, r, m, z, N, ext, rx, L) I E 14 [some (.ref 452), some (.int x1), none] [] [] []) (b := q_kc (t, r, m, z, N, ext, rx, L) I E 2 [some (.ref 452), some (.int x1), none] [] [] []) (P := x1 < 0) ok_X11_sign rfl q_cn (fun h1 => ?_) (fun h1 => ?_)
  · have hf := q_ip h1 hf
    refine q_blk 6 [] (c' := q_kc (t, r, m, z, N, ext, rx, L) I E 21 [some (.ref 452), some (.int x1), some (.null)] [.ref 1] [] []) ok_X11_sign rfl q_cn ?_
    cases hf
    exact q_kra ok_X11_sign rfl rfl (Nat.le_of_ble_eq_true rfl) (Nat.le_of_ble_eq_true rfl) ⟨rfl, q_hpe (q_fin [] rfl) (q_fin [] rfl)⟩
  · have hf := q_in h1 hf
    refine q_blf 3 [] (a := q_kc (t, r, m, z, N, ext, rx, L) I E 14 [some (.ref 452), some (.int x1), none] [] [] []) (b := q_kc (t, r, m, z, N, ext, rx, L) I E 6 [some (.ref 452), some (.int x1), none] [] [] []) (P := ((I 452) 6) ≤ x1) ok_X11_sign rfl q_cn (fun h2 => ?_) (fun h2 => ?_)
    · have hf := q_ip h2 hf
      refine q_blk 6 [] (c' := q_kc (t, r, m, z, N, ext, rx, L) I E 21 [some (.ref 452), some (.int x1), some (.null)] [.ref 1] [] []) ok_X11_sign rfl q_cn ?_
      cases hf
      exact q_kra ok_X11_sign rfl rfl (Nat.le_of_ble_eq_true rfl) (Nat.le_of_ble_eq_true rfl) ⟨rfl, q_hpe (q_fin [] rfl) (q_fin [] rfl)⟩
    · have hf := q_in h2 hf
      refine q_blf 2 [] (a := q_kc (t, r, m, z, N, ext, rx, L) I E 14 [some (.ref 452), some (.int x1), none] [] [] []) (b := q_kc (t, r, m, z, N, ext, rx, L) I E 9 [some (.ref 452), some (.int x1), none] [] [] []) (P := (400 : Int32) < x1) ok_X11_sign rfl q_cn (fun h3 => ?_) (fun h3 => ?_)
      · have hf := q_ip h3 hf
        refine q_blk 6 [] (c' := q_kc (t, r, m, z, N, ext, rx, L) I E 21 [some (.ref 452), some (.int x1), some (.null)] [.ref 1] [] []) ok_X11_sign rfl q_cn ?_
        cases hf
        exact q_kra ok_X11_sign rfl rfl (Nat.le_of_ble_eq_true rfl) (Nat.le_of_ble_eq_true rfl) ⟨rfl, q_hpe (q_fin [] rfl) (q_fin [] rfl)⟩
      · have hf := q_in h3 hf
        obtain ⟨j4, hj4, hf⟩ := q_bd hf
        refine q_blk 3 [] (c' := q_kc (t, r, m, z, N, ext, rx, L) I E 12 [some (.ref 452), some (.int x1), none] [.int x1, .ref 453] [] []) ok_X11_sign rfl q_cn ?_
        refine q_kaE (o := ((E 453) j4)) (pos' := 13) ok_X11_sign rfl rfl rfl hj4 rfl rfl rfl (fun hb6 => ?_) (fun b5 hb6 hl7 => ?_)
        · have hf := q_on0 hb6 hf
          refine q_blk 6 [] (c' := q_kc (t, r, m, z, N, ext, rx, L) I E 21 [some (.ref 452), some (.int x1), some (.null)] [.ref 1] [] []) ok_X11_sign rfl q_cn ?_
          cases hf
          exact q_kra ok_X11_sign rfl rfl (Nat.le_of_ble_eq_true rfl) (Nat.le_of_ble_eq_true rfl) ⟨rfl, q_hpe (q_fin [] rfl) (q_fin [] rfl)⟩
        · have hf := q_on1 hb6 hf
          refine q_blk 5 [] (c' := q_kc (t, r, m, z, N, ext, rx, L) I E 21 [some (.ref 452), some (.int x1), some (.ref b5)] [.ref b5] [] []) ok_X11_sign rfl q_cn ?_
          cases hf
          exact q_kra ok_X11_sign rfl rfl (Nat.le_of_ble_eq_true rfl) (Nat.le_of_ble_eq_true rfl) ⟨rfl, q_hpe (q_fin [] rfl) (q_fin [] rfl)⟩
set_option maxHeartbeats 4000000 in
theorem ct_X7_sign_450 {g : q_G} {t : Nat} {r : Nat} {m : Nat} {z : Nat} {N : Nat} {ext : Nat → q_Sh} {rx : Nat → Nat → Option Nat} {L : Nat → Nat → Int64} {d : Nat} (hd : 2 ≤ d)  {I : Nat → Nat → Int32} {E : Nat → Nat → Option Nat} {r0 : Nat} (hf : f_X7_sign (I 450) (I 452) (E 453) = some r0) : q_Ct g m_X7_sign d 0 0 [] [.ref 450] (q_hp (t, r, m, z, N, ext, rx, L) I E) (fun o h' => o = .inl (some (.ref r0)) ∧ h' = q_hp (t, r, m, z, N, ext, rx, L) (q_ws I []) (q_ws E [])) := by
  rw [f_X7_sign] at hf
  refine q_Ct_of ok_X7_sign (Nat.le_of_ble_eq_true rfl) ?_ _ rfl rfl
  change q_J g m_X7_sign d 0 0 _ [] _ 0 0 (q_kc (t, r, m, z, N, ext, rx, L) I E 0 [some (.ref 450)] [] [] [])
  refine q_blf 3 [] (a := q_kc (t, r, m, z, N, ext, rx, L) I E 6 [some (.ref 450)] [] [] []) (b := q_kc (t, r, m, z, N, ext, rx, L) I E 4 [some (.ref 450)] [] [] []) (P := ¬ ((I 450) 4) = (1 : Int32)) ok_X7_sign rfl q_cn (fun h1 => ?_) (fun h1 => ?_)
  · have hf := q_ip h1 hf
    refine q_blk 4 [] (c' := q_kc (t, r, m, z, N, ext, rx, L) I E 10 [some (.ref 450)] [.int ((I 450) 3), .ref 452] [] []) ok_X7_sign rfl q_cn ?_
    obtain ⟨r2, hr2, hf⟩ := q_bd hf
    obtain ⟨u3, hu4, hf⟩ := q_bd hf
    refine q_kV (M2 := m_X11_sign) (As := [.int ((I 450) 3)]) (b := 452) (v2 := some (.ref r2)) ok_X7_sign ok_X11_sign cv_X11_sign (ct_X11_sign_452 (d := 1) (Nat.le_refl _) hr2) rfl rfl (Or.inl rfl) rfl rfl rfl rfl (Nat.le_trans (Nat.le_of_ble_eq_true rfl) hd) (Nat.le_of_ble_eq_true rfl) (Nat.le_of_ble_eq_true rfl) (Nat.le_of_ble_eq_true rfl) (fun x hx => absurd hx List.not_mem_nil) (q_nmL0 _) (q_nmS0 _) rfl (pos' := 11) (st' := [.ref r2]) (lI' := []) (lE' := []) rfl rfl rfl rfl ?_
    cases hf
    exact q_kra ok_X7_sign rfl rfl (Nat.le_of_ble_eq_true rfl) (Nat.le_of_ble_eq_true rfl) ⟨rfl, q_hpe (q_fin [] rfl) (q_fin [] rfl)⟩
  · have hf := q_in h1 hf
    refine q_blk 2 [] (c' := q_kc (t, r, m, z, N, ext, rx, L) I E 11 [some (.ref 450)] [.ref 1] [] []) ok_X7_sign rfl q_cn ?_
    cases hf
    exact q_kra ok_X7_sign rfl rfl (Nat.le_of_ble_eq_true rfl) (Nat.le_of_ble_eq_true rfl) ⟨rfl, q_hpe (q_fin [] rfl) (q_fin [] rfl)⟩
set_option maxHeartbeats 4000000 in
theorem ct_X7_isStep {g : q_G} {t : Nat} {r : Nat} {m : Nat} {z : Nat} {N : Nat} {ext : Nat → q_Sh} {rx : Nat → Nat → Option Nat} {L : Nat → Nat → Int64} {d : Nat} (hd : 1 ≤ d)  {I : Nat → Nat → Int32} {E : Nat → Nat → Option Nat} {x0 : Nat} {r0 : Bool} (hf : f_X7_isStep x0 = some r0) : q_Ct g m_X7_isStep d 0 0 [] [.ref x0] (q_hp (t, r, m, z, N, ext, rx, L) I E) (fun o h' => o = .inl (some (.int (q_bz r0))) ∧ h' = q_hp (t, r, m, z, N, ext, rx, L) (q_ws I []) (q_ws E [])) := by
  rw [f_X7_isStep] at hf
  refine q_Ct_of ok_X7_isStep (Nat.le_of_ble_eq_true rfl) ?_ _ rfl rfl
  change q_J g m_X7_isStep d 0 0 _ [] _ 0 0 (q_kc (t, r, m, z, N, ext, rx, L) I E 0 [some (.ref x0)] [] [] [])
  obtain ⟨ug0, hg0, hf⟩ := q_bd hf
  refine q_blk 2 [] (c' := q_kc (t, r, m, z, N, ext, rx, L) I E 2 [some (.ref x0)] [.ref 9, .ref x0] [] []) ok_X7_isStep rfl q_cn ?_
  refine q_o_acmp_eq ok_X7_isStep rfl (q_e49_lt hg0) (Nat.lt_of_lt_of_le (Nat.lt_succ_self _) (Nat.le_of_ble_eq_true rfl)) (fun h1 => ?_) (fun h1 => ?_)
  · have hf := q_ip h1 hf
    refine q_blk 2 [] (c' := q_kc (t, r, m, z, N, ext, rx, L) I E 18 [some (.ref x0)] [.int (1 : Int32)] [] []) ok_X7_isStep rfl q_cn ?_
    cases hf
    exact q_kri ok_X7_isStep rfl rfl rfl (Nat.le_of_ble_eq_true rfl) (Nat.le_of_ble_eq_true rfl) ⟨rfl, q_hpe (q_fin [] rfl) (q_fin [] rfl)⟩
  · have hf := q_in h1 hf
    refine q_blk 2 [] (c' := q_kc (t, r, m, z, N, ext, rx, L) I E 5 [some (.ref x0)] [.ref 10, .ref x0] [] []) ok_X7_isStep rfl q_cn ?_
    refine q_o_acmp_eq ok_X7_isStep rfl (q_e49_lt hg0) (Nat.lt_of_lt_of_le (Nat.lt_succ_self _) (Nat.le_of_ble_eq_true rfl)) (fun h2 => ?_) (fun h2 => ?_)
    · have hf := q_ip h2 hf
      refine q_blk 2 [] (c' := q_kc (t, r, m, z, N, ext, rx, L) I E 18 [some (.ref x0)] [.int (1 : Int32)] [] []) ok_X7_isStep rfl q_cn ?_
      cases hf
      exact q_kri ok_X7_isStep rfl rfl rfl (Nat.le_of_ble_eq_true rfl) (Nat.le_of_ble_eq_true rfl) ⟨rfl, q_hpe (q_fin [] rfl) (q_fin [] rfl)⟩
    · have hf := q_in h2 hf
      refine q_blk 2 [] (c' := q_kc (t, r, m, z, N, ext, rx, L) I E 8 [some (.ref x0)] [.ref 11, .ref x0] [] []) ok_X7_isStep rfl q_cn ?_
      refine q_o_acmp_eq ok_X7_isStep rfl (q_e49_lt hg0) (Nat.lt_of_lt_of_le (Nat.lt_succ_self _) (Nat.le_of_ble_eq_true rfl)) (fun h3 => ?_) (fun h3 => ?_)
      · have hf := q_ip h3 hf
        refine q_blk 2 [] (c' := q_kc (t, r, m, z, N, ext, rx, L) I E 18 [some (.ref x0)] [.int (1 : Int32)] [] []) ok_X7_isStep rfl q_cn ?_
        cases hf
        exact q_kri ok_X7_isStep rfl rfl rfl (Nat.le_of_ble_eq_true rfl) (Nat.le_of_ble_eq_true rfl) ⟨rfl, q_hpe (q_fin [] rfl) (q_fin [] rfl)⟩
      · have hf := q_in h3 hf
        refine q_blk 2 [] (c' := q_kc (t, r, m, z, N, ext, rx, L) I E 11 [some (.ref x0)] [.ref 12, .ref x0] [] []) ok_X7_isStep rfl q_cn ?_
        refine q_o_acmp_eq ok_X7_isStep rfl (q_e49_lt hg0) (Nat.lt_of_lt_of_le (Nat.lt_succ_self _) (Nat.le_of_ble_eq_true rfl)) (fun h4 => ?_) (fun h4 => ?_)
        · have hf := q_ip h4 hf
          refine q_blk 2 [] (c' := q_kc (t, r, m, z, N, ext, rx, L) I E 18 [some (.ref x0)] [.int (1 : Int32)] [] []) ok_X7_isStep rfl q_cn ?_
          cases hf
          exact q_kri ok_X7_isStep rfl rfl rfl (Nat.le_of_ble_eq_true rfl) (Nat.le_of_ble_eq_true rfl) ⟨rfl, q_hpe (q_fin [] rfl) (q_fin [] rfl)⟩
        · have hf := q_in h4 hf
          refine q_blk 2 [] (c' := q_kc (t, r, m, z, N, ext, rx, L) I E 14 [some (.ref x0)] [.ref 13, .ref x0] [] []) ok_X7_isStep rfl q_cn ?_
          refine q_o_acmp_ne ok_X7_isStep rfl (q_e49_lt hg0) (Nat.lt_of_lt_of_le (Nat.lt_succ_self _) (Nat.le_of_ble_eq_true rfl)) (fun h5 => ?_) (fun h5 => ?_)
          · have hf := q_in h5 hf
            refine q_blk 1 [] (c' := q_kc (t, r, m, z, N, ext, rx, L) I E 18 [some (.ref x0)] [.int (0 : Int32)] [] []) ok_X7_isStep rfl q_cn ?_
            cases hf
            exact q_kri ok_X7_isStep rfl rfl rfl (Nat.le_of_ble_eq_true rfl) (Nat.le_of_ble_eq_true rfl) ⟨rfl, q_hpe (q_fin [] rfl) (q_fin [] rfl)⟩
          · have hf := q_ip h5 hf
            refine q_blk 2 [] (c' := q_kc (t, r, m, z, N, ext, rx, L) I E 18 [some (.ref x0)] [.int (1 : Int32)] [] []) ok_X7_isStep rfl q_cn ?_
            cases hf
            exact q_kri ok_X7_isStep rfl rfl rfl (Nat.le_of_ble_eq_true rfl) (Nat.le_of_ble_eq_true rfl) ⟨rfl, q_hpe (q_fin [] rfl) (q_fin [] rfl)⟩
set_option maxHeartbeats 4000000 in
theorem ct_X7_blame_450 {g : q_G} {t : Nat} {r : Nat} {m : Nat} {z : Nat} {N : Nat} {ext : Nat → q_Sh} {rx : Nat → Nat → Option Nat} {L : Nat → Nat → Int64} {d : Nat} (hd : 1 ≤ d)  {I : Nat → Nat → Int32} {E : Nat → Nat → Option Nat} {x1 : Int32} {x2 : Int32} {r0 : (Nat → Int32)} (hf : f_X7_blame (I 450) x1 x2 = some r0) : q_Ct g m_X7_blame d 0 0 [] [.ref 450, .int x1, .int x2] (q_hp (t, r, m, z, N, ext, rx, L) I E) (fun o h' => o = .inl none ∧ h' = q_hp (t, r, m, z, N, ext, rx, L) (q_ws I [(450, r0)]) (q_ws E [])) := by
  rw [f_X7_blame] at hf
  refine q_Ct_of ok_X7_blame (Nat.le_of_ble_eq_true rfl) ?_ _ rfl rfl
  change q_J g m_X7_blame d 0 0 _ [] _ 0 0 (q_kc (t, r, m, z, N, ext, rx, L) I E 0 [some (.ref 450), some (.int x1), some (.int x2)] [] [] [])
  refine q_blf 2 [] (a := q_kc (t, r, m, z, N, ext, rx, L) I E 9 [some (.ref 450), some (.int x1), some (.int x2)] [] [] []) (b := q_kc (t, r, m, z, N, ext, rx, L) I E 3 [some (.ref 450), some (.int x1), some (.int x2)] [] [] []) (P := ¬ ((I 450) 4) = 0) ok_X7_blame rfl q_cn (fun h1 => ?_) (fun h1 => ?_)
  · have hf := q_ip h1 hf
    cases hf
    exact q_krv ok_X7_blame rfl rfl (Nat.le_of_ble_eq_true rfl) (Nat.le_of_ble_eq_true rfl) ⟨rfl, q_hpe (q_fin [450] rfl) (q_fin [] rfl)⟩
  · have hf := q_in h1 hf
    refine q_blk 6 [] (c' := q_kc (t, r, m, z, N, ext, rx, L) I E 9 [some (.ref 450), some (.int x1), some (.int x2)] [] [(450, (q_up (q_up (I 450) 4 x1) 5 x2))] []) ok_X7_blame rfl q_cn ?_
    cases hf
    exact q_krv ok_X7_blame rfl rfl (Nat.le_of_ble_eq_true rfl) (Nat.le_of_ble_eq_true rfl) ⟨rfl, q_hpe (q_fin [450] rfl) (q_fin [] rfl)⟩
set_option maxHeartbeats 4000000 in
theorem ct_X10_clear_T430 {g : q_G} {t : Nat} {r : Nat} {m : Nat} {z : Nat} {N : Nat} {ext : Nat → q_Sh} {rx : Nat → Nat → Option Nat} {L : Nat → Nat → Int64} {d : Nat} (hd : 1 ≤ d)  {I : Nat → Nat → Int32} {E : Nat → Nat → Option Nat} {T2 : Nat → Nat → Int32} {K2 : Nat → Nat → Option Nat} {x0 : Nat} {x1 : Nat} {r0 : (Nat → Nat → Int32) × (Nat → Nat → Option Nat)} (hf : f_X10_clear T2 K2 x0 x1 = some r0) : q_Ct g m_X10_clear d 0 0 [] [.ref (430 + x0), .ref x1] (q_hp (t, r, m, z, N, ext, rx, L) (q_tW I 430 T2) (q_tW E 430 K2)) (fun o h' => o = .inl none ∧ h' = q_hp (t, r, m, z, N, ext, rx, L) (q_ws (q_tW I 430 r0.1) []) (q_ws (q_tW E 430 r0.2) [])) := by
  rw [f_X10_clear] at hf
  refine q_Ct_of ok_X10_clear (Nat.le_of_ble_eq_true rfl) ?_ _ rfl rfl
  change q_J g m_X10_clear d 0 0 _ [] _ 0 0 (q_kc (t, r, m, z, N, ext, rx, L) (q_tW I 430 T2) (q_tW E 430 K2) 0 [some (.ref (430 + x0)), some (.ref x1)] [] [] [])
  obtain ⟨ug0, hg0, hf⟩ := q_bd hf
  obtain ⟨ug1, hg1, hf⟩ := q_bd hf
  refine q_blk 2 [] (c' := q_kc (t, r, m, z, N, ext, rx, L) (q_tW I 430 T2) (q_tW E 430 K2) 2 [some (.ref (430 + x0)), some (.ref x1)] [.ref x1, .ref (430 + x0)] [] []) ok_X10_clear rfl q_cn ?_
  refine q_kpK (pos' := 3) ok_X10_clear rfl (q_t20_lt hg0) rfl rfl (q_e49_lt hg1) rfl rfl ?_
  refine q_blk 2 [] (c' := q_kc (t, r, m, z, N, ext, rx, L) (q_tW I 430 T2) (q_tW E 430 (q_u2 K2 x0 0 (some x1))) 5 [some (.ref (430 + x0)), some (.ref x1)] [.int (0 : Int32), .ref (430 + x0)] [] []) ok_X10_clear rfl q_cn ?_
  refine q_kpT (pos' := 6) ok_X10_clear rfl (q_t20_lt hg0) rfl rfl rfl rfl ?_
  refine q_blk 2 [] (c' := q_kc (t, r, m, z, N, ext, rx, L) (q_tW I 430 (q_u2 T2 x0 1 (0 : Int32))) (q_tW E 430 (q_u2 K2 x0 0 (some x1))) 8 [some (.ref (430 + x0)), some (.ref x1)] [.int (0 : Int32), .ref (430 + x0)] [] []) ok_X10_clear rfl q_cn ?_
  refine q_kpT (pos' := 9) ok_X10_clear rfl (q_t20_lt hg0) rfl rfl rfl rfl ?_
  refine q_blk 2 [] (c' := q_kc (t, r, m, z, N, ext, rx, L) (q_tW I 430 (q_u2 (q_u2 T2 x0 1 (0 : Int32)) x0 2 (0 : Int32))) (q_tW E 430 (q_u2 K2 x0 0 (some x1))) 11 [some (.ref (430 + x0)), some (.ref x1)] [.int (0 : Int32), .ref (430 + x0)] [] []) ok_X10_clear rfl q_cn ?_
  refine q_kpT (pos' := 12) ok_X10_clear rfl (q_t20_lt hg0) rfl rfl rfl rfl ?_
  refine q_blk 2 [] (c' := q_kc (t, r, m, z, N, ext, rx, L) (q_tW I 430 (q_u2 (q_u2 (q_u2 T2 x0 1 (0 : Int32)) x0 2 (0 : Int32)) x0 3 (0 : Int32))) (q_tW E 430 (q_u2 K2 x0 0 (some x1))) 14 [some (.ref (430 + x0)), some (.ref x1)] [.int (0 : Int32), .ref (430 + x0)] [] []) ok_X10_clear rfl q_cn ?_
  refine q_kpT (pos' := 15) ok_X10_clear rfl (q_t20_lt hg0) rfl rfl rfl rfl ?_
  refine q_blk 2 [] (c' := q_kc (t, r, m, z, N, ext, rx, L) (q_tW I 430 (q_u2 (q_u2 (q_u2 (q_u2 T2 x0 1 (0 : Int32)) x0 2 (0 : Int32)) x0 3 (0 : Int32)) x0 4 (0 : Int32))) (q_tW E 430 (q_u2 K2 x0 0 (some x1))) 17 [some (.ref (430 + x0)), some (.ref x1)] [.int (0 : Int32), .ref (430 + x0)] [] []) ok_X10_clear rfl q_cn ?_
  refine q_kpT (pos' := 18) ok_X10_clear rfl (q_t20_lt hg0) rfl rfl rfl rfl ?_
  refine q_blk 2 [] (c' := q_kc (t, r, m, z, N, ext, rx, L) (q_tW I 430 (q_u2 (q_u2 (q_u2 (q_u2 (q_u2 T2 x0 1 (0 : Int32)) x0 2 (0 : Int32)) x0 3 (0 : Int32)) x0 4 (0 : Int32)) x0 5 (0 : Int32))) (q_tW E 430 (q_u2 K2 x0 0 (some x1))) 20 [some (.ref (430 + x0)), some (.ref x1)] [.int (0 : Int32), .ref (430 + x0)] [] []) ok_X10_clear rfl q_cn ?_
  refine q_kpT (pos' := 21) ok_X10_clear rfl (q_t20_lt hg0) rfl rfl rfl rfl ?_
  refine q_blk 2 [] (c' := q_kc (t, r, m, z, N, ext, rx, L) (q_tW I 430 (q_u2 (q_u2 (q_u2 (q_u2 (q_u2 (q_u2 T2 x0 1 (0 : Int32)) x0 2 (0 : Int32)) x0 3 (0 : Int32)) x0 4 (0 : Int32)) x0 5 (0 : Int32)) x0 6 (0 : Int32))) (q_tW E 430 (q_u2 K2 x0 0 (some x1))) 23 [some (.ref (430 + x0)), some (.ref x1)] [.int (0 : Int32), .ref (430 + x0)] [] []) ok_X10_clear rfl q_cn ?_
  refine q_kpT (pos' := 24) ok_X10_clear rfl (q_t20_lt hg0) rfl rfl rfl rfl ?_
  cases hf
  exact q_krv ok_X10_clear rfl rfl (Nat.le_of_ble_eq_true rfl) (Nat.le_of_ble_eq_true rfl) ⟨rfl, q_hpe (q_fin [] rfl) (q_fin [] rfl)⟩
set_option maxHeartbeats 4000000 in
theorem ct_X6_addStep_426 {g : q_G} {t : Nat} {r : Nat} {m : Nat} {z : Nat} {N : Nat} {ext : Nat → q_Sh} {rx : Nat → Nat → Option Nat} {L : Nat → Nat → Int64} {d : Nat} (hd : 2 ≤ d)  {I : Nat → Nat → Int32} {E : Nat → Nat → Option Nat} {T2 : Nat → Nat → Int32} {K2 : Nat → Nat → Option Nat} {x1 : Nat} {r0 : Nat × (Nat → Int32) × (Nat → Nat → Int32) × (Nat → Nat → Option Nat)} (hf : f_X6_addStep (I 426) T2 K2 x1 = some r0) : q_Ct g m_X6_addStep d 0 0 [] [.ref 426, .ref x1] (q_hp (t, r, m, z, N, ext, rx, L) (q_tW I 430 T2) (q_tW E 430 K2)) (fun o h' => o = .inl (some (.ref (430 + r0.1))) ∧ h' = q_hp (t, r, m, z, N, ext, rx, L) (q_ws (q_tW I 430 r0.2.2.1) [(426, r0.2.1)]) (q_ws (q_tW E 430 r0.2.2.2) [])) := by
  rw [f_X6_addStep] at hf
  refine q_Ct_of ok_X6_addStep (Nat.le_of_ble_eq_true rfl) ?_ _ rfl rfl
  change q_J g m_X6_addStep d 0 0 _ [] _ 0 0 (q_kc (t, r, m, z, N, ext, rx, L) (q_tW I 430 T2) (q_tW E 430 K2) 0 [some (.ref 426), some (.ref x1), none] [] [] [])
  obtain ⟨ug1, hg1, hf⟩ := q_bd hf
  refine q_blk 3 [] (c' := q_kc (t, r, m, z, N, ext, rx, L) (q_tW I 430 T2) (q_tW E 430 K2) 3 [some (.ref 426), some (.ref x1), none] [.int (0 : Int32), .int ((I 426) 4)] [] []) ok_X6_addStep rfl q_cn ?_
  refine q_kmx (pos' := 4) ok_X6_addStep rfl rfl (Nat.le_trans (Nat.le_of_ble_eq_true rfl) hd) (Nat.le_of_ble_eq_true rfl) (Nat.le_of_ble_eq_true rfl) (Nat.le_of_ble_eq_true rfl) rfl ?_
  refine q_blk 1 [] (c' := q_kc (t, r, m, z, N, ext, rx, L) (q_tW I 430 T2) (q_tW E 430 K2) 5 [some (.ref 426), some (.ref x1), none] [.int (19 : Int32), .int (q_max ((I 426) 4) (0 : Int32))] [] []) ok_X6_addStep rfl q_cn ?_
  refine q_kmn (pos' := 6) ok_X6_addStep rfl rfl (Nat.le_trans (Nat.le_of_ble_eq_true rfl) hd) (Nat.le_of_ble_eq_true rfl) (Nat.le_of_ble_eq_true rfl) (Nat.le_of_ble_eq_true rfl) rfl ?_
  obtain ⟨j1, hj1, hf⟩ := q_bd hf
  refine q_blk 9 [] (c' := q_kc (t, r, m, z, N, ext, rx, L) (q_tW I 430 T2) (q_tW E 430 K2) 15 [some (.ref 426), some (.ref x1), some (.int (q_min (q_max ((I 426) 4) (0 : Int32)) (19 : Int32)))] [.int (q_min (q_max ((I 426) 4) (0 : Int32)) (19 : Int32)), .ref 427] [(426, (q_up (I 426) 4 ((q_min (q_max ((I 426) 4) (0 : Int32)) (19 : Int32)) + (1 : Int32))))] []) ok_X6_addStep rfl q_cn ?_
  refine q_ktold (pos' := 16) ok_X6_addStep rfl (Or.inr ⟨rfl, rfl⟩) hj1 rfl ?_
  refine q_blk 1 [] (c' := q_kc (t, r, m, z, N, ext, rx, L) (q_tW I 430 T2) (q_tW E 430 K2) 17 [some (.ref 426), some (.ref x1), some (.int (q_min (q_max ((I 426) 4) (0 : Int32)) (19 : Int32)))] [.ref x1, .ref (430 + j1)] [(426, (q_up (I 426) 4 ((q_min (q_max ((I 426) 4) (0 : Int32)) (19 : Int32)) + (1 : Int32))))] []) ok_X6_addStep rfl q_cn ?_
  obtain ⟨r2, hr2, hf⟩ := q_bd hf
  refine q_kVT (M2 := m_X10_clear) (As := [.ref x1]) (b := 430 + j1) (v2 := none) ok_X6_addStep ok_X10_clear cv_X10_clear (ct_X10_clear_T430 (d := 1) (Nat.le_refl _) hr2) rfl rfl (Or.inl rfl) (q_stb (Or.inr rfl)) (q_sts (Or.inr rfl) (q_ix_lt hj1)) rfl rfl (Nat.le_trans (Nat.le_of_ble_eq_true rfl) hd) (Nat.le_of_ble_eq_true rfl) (Nat.le_of_ble_eq_true rfl) (Nat.le_of_ble_eq_true rfl) (fun x hx => absurd hx List.not_mem_nil) (q_nmL0 _) (q_nmS0 _) rfl (pos' := 18) (st' := []) (lI' := [(426, (q_up (I 426) 4 ((q_min (q_max ((I 426) 4) (0 : Int32)) (19 : Int32)) + (1 : Int32))))]) (lE' := []) rfl rfl rfl rfl rfl rfl ?_
  obtain ⟨j3, hj3, hf⟩ := q_bd hf
  refine q_blk 3 [] (c' := q_kc (t, r, m, z, N, ext, rx, L) (q_tW I 430 r2.1) (q_tW E 430 r2.2) 21 [some (.ref 426), some (.ref x1), some (.int (q_min (q_max ((I 426) 4) (0 : Int32)) (19 : Int32)))] [.int (q_min (q_max ((I 426) 4) (0 : Int32)) (19 : Int32)), .ref 427] [(426, (q_up (I 426) 4 ((q_min (q_max ((I 426) 4) (0 : Int32)) (19 : Int32)) + (1 : Int32))))] []) ok_X6_addStep rfl q_cn ?_
  refine q_ktold (pos' := 22) ok_X6_addStep rfl (Or.inr ⟨rfl, rfl⟩) hj3 rfl ?_
  cases hf
  exact q_kra ok_X6_addStep rfl rfl (Nat.le_of_ble_eq_true rfl) (Nat.le_of_ble_eq_true rfl) ⟨rfl, q_hpe (q_fin [426] rfl) (q_fin [] rfl)⟩
set_option maxHeartbeats 4000000 in
theorem ct_X7_fail_450 {g : q_G} {t : Nat} {r : Nat} {m : Nat} {z : Nat} {N : Nat} {ext : Nat → q_Sh} {rx : Nat → Nat → Option Nat} {L : Nat → Nat → Int64} {d : Nat} (hd : 1 ≤ d)  {I : Nat → Nat → Int32} {E : Nat → Nat → Option Nat} {r0 : (Nat → Int32)} (hf : f_X7_fail (I 450) = some r0) : q_Ct g m_X7_fail d 0 0 [] [.ref 450] (q_hp (t, r, m, z, N, ext, rx, L) I E) (fun o h' => o = .inl none ∧ h' = q_hp (t, r, m, z, N, ext, rx, L) (q_ws I [(450, r0)]) (q_ws E [])) := by
  rw [f_X7_fail] at hf
  refine q_Ct_of ok_X7_fail (Nat.le_of_ble_eq_true rfl) ?_ _ rfl rfl
  change q_J g m_X7_fail d 0 0 _ [] _ 0 0 (q_kc (t, r, m, z, N, ext, rx, L) I E 0 [some (.ref 450)] [] [] [])
  refine q_blf 3 [] (a := q_kc (t, r, m, z, N, ext, rx, L) I E 11 [some (.ref 450)] [] [] []) (b := q_kc (t, r, m, z, N, ext, rx, L) I E 4 [some (.ref 450)] [] [] []) (P := ((I 450) 4) = (1 : Int32)) ok_X7_fail rfl q_cn (fun h1 => ?_) (fun h1 => ?_)
  · have hf := q_ip h1 hf
    cases hf
    exact q_krv ok_X7_fail rfl rfl (Nat.le_of_ble_eq_true rfl) (Nat.le_of_ble_eq_true rfl) ⟨rfl, q_hpe (q_fin [450] rfl) (q_fin [] rfl)⟩
  · have hf := q_in h1 hf
    refine q_blk 7 [] (c' := q_kc (t, r, m, z, N, ext, rx, L) I E 11 [some (.ref 450)] [] [(450, (q_up (q_up (I 450) 4 (1 : Int32)) 5 ((q_up (I 450) 4 (1 : Int32)) 3)))] []) ok_X7_fail rfl q_cn ?_
    cases hf
    exact q_krv ok_X7_fail rfl rfl (Nat.le_of_ble_eq_true rfl) (Nat.le_of_ble_eq_true rfl) ⟨rfl, q_hpe (q_fin [450] rfl) (q_fin [] rfl)⟩
set_option maxHeartbeats 4000000 in
theorem ct_X11_value_452 {g : q_G} {t : Nat} {r : Nat} {m : Nat} {z : Nat} {N : Nat} {ext : Nat → q_Sh} {rx : Nat → Nat → Option Nat} {L : Nat → Nat → Int64} {d : Nat} (hd : 1 ≤ d)  {I : Nat → Nat → Int32} {E : Nat → Nat → Option Nat} {x1 : Int32} {r0 : Int32} (hf : f_X11_value (I 452) (I 456) x1 = some r0) : q_Ct g m_X11_value d 0 0 [] [.ref 452, .int x1] (q_hp (t, r, m, z, N, ext, rx, L) I E) (fun o h' => o = .inl (some (.int r0)) ∧ h' = q_hp (t, r, m, z, N, ext, rx, L) (q_ws I []) (q_ws E [])) := by
  rw [f_X11_value] at hf
  refine q_Ct_of ok_X11_value (Nat.le_of_ble_eq_true rfl) ?_ _ rfl rfl
  change q_J g m_X11_value d 0 0 _ [] _ 0 0 (q_kc (t, r, m, z, N, ext, rx, L) I E 0 [some (.ref 452), some (.int x1)] [] [] [])
  refine q_blf 1 [] (a := q_kc (t, r, m, z, N, ext, rx, L) I E 14 [some (.ref 452), some (.int x1)] [] [] []) (b := q_kc (t, r, m, z, N, ext, rx, L) I E 2 [some (.ref 452), some (.int x1)] [] [] []) (P := x1 < 0) ok_X11_value rfl q_cn (fun h1 => ?_) (fun h1 => ?_)
  · have hf := q_ip h1 hf
    refine q_blk 1 [] (c' := q_kc (t, r, m, z, N, ext, rx, L) I E 15 [some (.ref 452), some (.int x1)] [.int (0 : Int32)] [] []) ok_X11_value rfl q_cn ?_
    cases hf
    exact q_kri ok_X11_value rfl rfl rfl (Nat.le_of_ble_eq_true rfl) (Nat.le_of_ble_eq_true rfl) ⟨rfl, q_hpe (q_fin [] rfl) (q_fin [] rfl)⟩
  · have hf := q_in h1 hf
    refine q_blf 3 [] (a := q_kc (t, r, m, z, N, ext, rx, L) I E 14 [some (.ref 452), some (.int x1)] [] [] []) (b := q_kc (t, r, m, z, N, ext, rx, L) I E 6 [some (.ref 452), some (.int x1)] [] [] []) (P := ((I 452) 6) ≤ x1) ok_X11_value rfl q_cn (fun h2 => ?_) (fun h2 => ?_)
    · have hf := q_ip h2 hf
      refine q_blk 1 [] (c' := q_kc (t, r, m, z, N, ext, rx, L) I E 15 [some (.ref 452), some (.int x1)] [.int (0 : Int32)] [] []) ok_X11_value rfl q_cn ?_
      cases hf
      exact q_kri ok_X11_value rfl rfl rfl (Nat.le_of_ble_eq_true rfl) (Nat.le_of_ble_eq_true rfl) ⟨rfl, q_hpe (q_fin [] rfl) (q_fin [] rfl)⟩
    · have hf := q_in h2 hf
      refine q_blf 2 [] (a := q_kc (t, r, m, z, N, ext, rx, L) I E 14 [some (.ref 452), some (.int x1)] [] [] []) (b := q_kc (t, r, m, z, N, ext, rx, L) I E 9 [some (.ref 452), some (.int x1)] [] [] []) (P := (400 : Int32) < x1) ok_X11_value rfl q_cn (fun h3 => ?_) (fun h3 => ?_)
      · have hf := q_ip h3 hf
        refine q_blk 1 [] (c' := q_kc (t, r, m, z, N, ext, rx, L) I E 15 [some (.ref 452), some (.int x1)] [.int (0 : Int32)] [] []) ok_X11_value rfl q_cn ?_
        cases hf
        exact q_kri ok_X11_value rfl rfl rfl (Nat.le_of_ble_eq_true rfl) (Nat.le_of_ble_eq_true rfl) ⟨rfl, q_hpe (q_fin [] rfl) (q_fin [] rfl)⟩
      · have hf := q_in h3 hf
        obtain ⟨j4, hj4, hf⟩ := q_bd hf
        refine q_blk 5 [j4] (c' := q_kc (t, r, m, z, N, ext, rx, L) I E 15 [some (.ref 452), some (.int x1)] [.int ((I 456) j4)] [] []) ok_X11_value rfl (q_cc hj4 q_cn) ?_
        cases hf
        exact q_kri ok_X11_value rfl rfl rfl (Nat.le_of_ble_eq_true rfl) (Nat.le_of_ble_eq_true rfl) ⟨rfl, q_hpe (q_fin [] rfl) (q_fin [] rfl)⟩
set_option maxHeartbeats 4000000 in
theorem lp_X7_hookNamed_L2_450 {g : q_G} {d mc ms : Nat} {h0 : q_H} {Q : (Option Value ⊕ String) → q_H → Prop} {k n : Nat} {t : Nat} {m : Nat} {z : Nat} {N : Nat} {ext : Nat → q_Sh} {rx : Nat → Nat → Option Nat} {L : Nat → Nat → Int64} (hd : 1 ≤ d) (hk : k ≤ mc) (hn : n ≤ ms)  {v1 : Int32} : ∀ (fu : Nat) {I : Nat → Nat → Int32} {E : Nat → Nat → Option Nat} {v2 : Int32} {r0 : Nat × Int32} (hf : f_X7_hookNamed_L2 (I 426) (I 451) v1 fu v2 = some r0) (hK0 : r0.1 = 0 → q_J g m_X7_hookNamed d mc ms h0 [] Q k n (q_kc (t, 0, m, z, N, ext, rx, L) I E 20 [none, none, none] [] [] [])) (hK1 : r0.1 = 1 → q_J g m_X7_hookNamed d mc ms h0 [] Q k n (q_kc (t, 0, m, z, N, ext, rx, L) I E 16 [none, none, some (.int r0.2)] [] [] [])), q_J g m_X7_hookNamed d mc ms h0 [] Q k n (2, [some (.ref 450), some (.int v1), some (.int v2)], [], q_hp (t, 0, m, z, N, ext, rx, L) I E) := by
  intro fu
  induction fu with
  | zero =>
    intro I E v2 r0 hf hK0 hK1
    rw [f_X7_hookNamed_L2] at hf
    cases hf
  | succ fu ih =>
    intro I E v2 r0 hf hK0 hK1
    rw [f_X7_hookNamed_L2] at hf
    change q_J g m_X7_hookNamed d mc ms h0 [] Q k n (q_kc (t, 0, m, z, N, ext, rx, L) I E 2 [some (.ref 450), some (.int v1), some (.int v2)] [] [] [])
    refine q_blf 4 [] (a := q_kc (t, 0, m, z, N, ext, rx, L) I E 20 [some (.ref 450), some (.int v1), some (.int v2)] [] [] []) (b := q_kc (t, 0, m, z, N, ext, rx, L) I E 7 [some (.ref 450), some (.int v1), some (.int v2)] [] [] []) (P := ((I 426) 3) ≤ v2) ok_X7_hookNamed rfl q_cn (fun h1 => ?_) (fun h1 => ?_)
    · have hf := q_ip h1 hf
      refine q_less (ls' := [none, none, none]) (q_sb1 (q_sb1 (q_sb1 q_sb0))) ?_
      cases hf
      exact q_Jpad [] [] rfl rfl (hK0 rfl)
    · have hf := q_in h1 hf
      refine q_blf 2 [] (a := q_kc (t, 0, m, z, N, ext, rx, L) I E 20 [some (.ref 450), some (.int v1), some (.int v2)] [] [] []) (b := q_kc (t, 0, m, z, N, ext, rx, L) I E 10 [some (.ref 450), some (.int v1), some (.int v2)] [] [] []) (P := (6 : Int32) ≤ v2) ok_X7_hookNamed rfl q_cn (fun h2 => ?_) (fun h2 => ?_)
      · have hf := q_ip h2 hf
        refine q_less (ls' := [none, none, none]) (q_sb1 (q_sb1 (q_sb1 q_sb0))) ?_
        cases hf
        exact q_Jpad [] [] rfl rfl (hK0 rfl)
      · have hf := q_in h2 hf
        obtain ⟨j3, hj3, hf⟩ := q_bd hf
        refine q_blf 5 [j3] (a := q_kc (t, 0, m, z, N, ext, rx, L) I E 18 [some (.ref 450), some (.int v1), some (.int v2)] [] [] []) (b := q_kc (t, 0, m, z, N, ext, rx, L) I E 16 [some (.ref 450), some (.int v1), some (.int v2)] [] [] []) (P := ¬ ((I 451) j3) = v1) ok_X7_hookNamed rfl (q_cc hj3 q_cn) (fun h4 => ?_) (fun h4 => ?_)
        · have hf := q_ip h4 hf
          refine q_blk 2 [] (c' := q_kc (t, 0, m, z, N, ext, rx, L) I E 2 [some (.ref 450), some (.int v1), some (.int (v2 + 1))] [] [] []) ok_X7_hookNamed rfl q_cn ?_
          exact ih (I := q_ws I []) (E := q_ws E []) hf (fun hz => q_Jmrg rfl rfl (hK0 hz)) (fun hz => q_Jmrg rfl rfl (hK1 hz))
        · have hf := q_in h4 hf
          refine q_less (ls' := [none, none, some (.int v2)]) (q_sb1 (q_sb1 (q_sb2 q_sb0))) ?_
          cases hf
          exact q_Jpad [] [] rfl rfl (hK1 rfl)
set_option maxHeartbeats 4000000 in
theorem ct_X7_hookNamed_450 {g : q_G} {t : Nat} {m : Nat} {z : Nat} {N : Nat} {ext : Nat → q_Sh} {rx : Nat → Nat → Option Nat} {L : Nat → Nat → Int64} {d : Nat} (hd : 1 ≤ d)  {I : Nat → Nat → Int32} {E : Nat → Nat → Option Nat} {x1 : Int32} {r0 : Int32} (hf : f_X7_hookNamed (I 426) (I 451) x1 = some r0) : q_Ct g m_X7_hookNamed d 0 0 [] [.ref 450, .int x1] (q_hp (t, 0, m, z, N, ext, rx, L) I E) (fun o h' => o = .inl (some (.int r0)) ∧ h' = q_hp (t, 0, m, z, N, ext, rx, L) (q_ws I []) (q_ws E [])) := by
  rw [f_X7_hookNamed] at hf
  refine q_Ct_of ok_X7_hookNamed (Nat.le_of_ble_eq_true rfl) ?_ _ rfl rfl
  change q_J g m_X7_hookNamed d 0 0 _ [] _ 0 0 (q_kc (t, 0, m, z, N, ext, rx, L) I E 0 [some (.ref 450), some (.int x1), none] [] [] [])
  refine q_blk 2 [] (c' := q_kc (t, 0, m, z, N, ext, rx, L) I E 2 [some (.ref 450), some (.int x1), some (.int (0 : Int32))] [] [] []) ok_X7_hookNamed rfl q_cn ?_
  obtain ⟨r5, hr5, hf⟩ := q_bd hf
  refine lp_X7_hookNamed_L2_450 (I := q_ws I []) (E := q_ws E []) hd (Nat.le_of_ble_eq_true rfl) (Nat.le_of_ble_eq_true rfl) 4096 hr5 ?_ ?_
  · intro hz0
    have hf := q_ip hz0 hf
    refine q_Jmrg (lI' := []) (lE' := []) rfl rfl ?_
    refine q_blk 1 [] (c' := q_kc (t, 0, m, z, N, ext, rx, L) I E 21 [none, none, none] [.int (-1 : Int32)] [] []) ok_X7_hookNamed rfl q_cn ?_
    cases hf
    exact q_kri ok_X7_hookNamed rfl rfl rfl (Nat.le_of_ble_eq_true rfl) (Nat.le_of_ble_eq_true rfl) ⟨rfl, q_hpe (q_fin [] rfl) (q_fin [] rfl)⟩
  · intro hz1
    have hf := q_in (fun h9 => absurd (hz1.symm.trans h9) (by decide)) hf
    refine q_Jmrg (lI' := []) (lE' := []) rfl rfl ?_
    refine q_blk 1 [] (c' := q_kc (t, 0, m, z, N, ext, rx, L) I E 17 [none, none, some (.int r5.2)] [.int r5.2] [] []) ok_X7_hookNamed rfl q_cn ?_
    cases hf
    exact q_kri ok_X7_hookNamed rfl rfl rfl (Nat.le_of_ble_eq_true rfl) (Nat.le_of_ble_eq_true rfl) ⟨rfl, q_hpe (q_fin [] rfl) (q_fin [] rfl)⟩
set_option maxHeartbeats 4000000 in
theorem ct_X7_readHook_450 {g : q_G} {t : Nat} {m : Nat} {z : Nat} {N : Nat} {ext : Nat → q_Sh} {rx : Nat → Nat → Option Nat} {L : Nat → Nat → Int64} {d : Nat} (hd : 3 ≤ d)  {I : Nat → Nat → Int32} {E : Nat → Nat → Option Nat} {r0 : Int32 × (Nat → Int32)} (hf : f_X7_readHook (I 426) (I 450) (I 451) (I 452) (I 456) (E 453) = some r0) : q_Ct g m_X7_readHook d 0 0 [] [.ref 450] (q_hp (t, 0, m, z, N, ext, rx, L) I E) (fun o h' => o = .inl (some (.int r0.1)) ∧ h' = q_hp (t, 0, m, z, N, ext, rx, L) (q_ws I [(450, r0.2)]) (q_ws E [])) := by
  rw [f_X7_readHook] at hf
  refine q_Ct_of ok_X7_readHook (Nat.le_of_ble_eq_true rfl) ?_ _ rfl rfl
  change q_J g m_X7_readHook d 0 0 _ [] _ 0 0 (q_kc (t, 0, m, z, N, ext, rx, L) I E 0 [some (.ref 450), none] [] [] [])
  refine q_blk 1 [] (c' := q_kc (t, 0, m, z, N, ext, rx, L) I E 1 [some (.ref 450), none] [.ref 450] [] []) ok_X7_readHook rfl q_cn ?_
  obtain ⟨r1, hr1, hf⟩ := q_bd hf
  obtain ⟨u2, hu3, hf⟩ := q_bd hf
  refine q_kV (M2 := m_X7_sign) (As := []) (b := 450) (v2 := some (.ref r1)) ok_X7_readHook ok_X7_sign cv_X7_sign (ct_X7_sign_450 (d := 2) (Nat.le_refl _) hr1) rfl rfl (Or.inl rfl) rfl rfl rfl rfl (Nat.le_trans (Nat.le_of_ble_eq_true rfl) hd) (Nat.le_of_ble_eq_true rfl) (Nat.le_of_ble_eq_true rfl) (Nat.le_of_ble_eq_true rfl) (fun x hx => absurd hx List.not_mem_nil) (q_nmL0 _) (q_nmS0 _) rfl (pos' := 2) (st' := [.ref r1]) (lI' := []) (lE' := []) rfl rfl rfl rfl ?_
  refine q_blk 1 [] (c' := q_kc (t, 0, m, z, N, ext, rx, L) I E 3 [some (.ref 450), none] [.ref 3, .ref r1] [] []) ok_X7_readHook rfl q_cn ?_
  refine q_o_acmp_eq ok_X7_readHook rfl (q_e49_lt hu3) (Nat.lt_of_lt_of_le (Nat.lt_succ_self _) (Nat.le_of_ble_eq_true rfl)) (fun h4 => ?_) (fun h4 => ?_)
  · have hf := q_ip h4 hf
    refine q_blk 5 [] (c' := q_kc (t, 0, m, z, N, ext, rx, L) I E 13 [some (.ref 450), none] [.int ((I 450) 3), .ref 452, .ref 450] [] []) ok_X7_readHook rfl q_cn ?_
    obtain ⟨r5, hr5, hf⟩ := q_bd hf
    refine q_kV (M2 := m_X11_value) (As := [.int ((I 450) 3)]) (b := 452) (v2 := some (.int r5)) ok_X7_readHook ok_X11_value cv_X11_value (ct_X11_value_452 (d := 1) (Nat.le_refl _) hr5) rfl rfl (Or.inl rfl) rfl rfl rfl rfl (Nat.le_trans (Nat.le_of_ble_eq_true rfl) hd) (Nat.le_of_ble_eq_true rfl) (Nat.le_of_ble_eq_true rfl) (Nat.le_of_ble_eq_true rfl) (fun x hx => absurd hx List.not_mem_nil) (q_nmL0 _) (q_nmS0 _) rfl (pos' := 14) (st' := [.int r5, .ref 450]) (lI' := []) (lE' := []) rfl rfl rfl rfl ?_
    obtain ⟨r6, hr6, hf⟩ := q_bd hf
    refine q_kV (M2 := m_X7_hookNamed) (As := [.int r5]) (b := 450) (v2 := some (.int r6)) ok_X7_readHook ok_X7_hookNamed cv_X7_hookNamed (ct_X7_hookNamed_450 (d := 1) (Nat.le_refl _) hr6) rfl rfl (Or.inl rfl) rfl rfl rfl rfl (Nat.le_trans (Nat.le_of_ble_eq_true rfl) hd) (Nat.le_of_ble_eq_true rfl) (Nat.le_of_ble_eq_true rfl) (Nat.le_of_ble_eq_true rfl) (fun x hx => absurd hx List.not_mem_nil) (q_nmL0 _) (q_nmS0 _) rfl (pos' := 15) (st' := [.int r6]) (lI' := []) (lE' := []) rfl rfl rfl rfl ?_
    refine q_blf 3 [] (a := q_kc (t, 0, m, z, N, ext, rx, L) I E 24 [some (.ref 450), some (.int r6)] [] [] []) (b := q_kc (t, 0, m, z, N, ext, rx, L) I E 19 [some (.ref 450), some (.int r6)] [] [] []) (P := ¬ r6 = (-1 : Int32)) ok_X7_readHook rfl q_cn (fun h7 => ?_) (fun h7 => ?_)
    · have hf := q_ip h7 hf
      refine q_blk 8 [] (c' := q_kc (t, 0, m, z, N, ext, rx, L) I E 32 [some (.ref 450), some (.int r6)] [.int (0 : Int32), .int r6] [(450, (q_up (I 450) 3 (((I 450) 3) + (1 : Int32))))] []) ok_X7_readHook rfl q_cn ?_
      refine q_kmx (pos' := 33) ok_X7_readHook rfl rfl (Nat.le_trans (Nat.le_of_ble_eq_true rfl) hd) (Nat.le_of_ble_eq_true rfl) (Nat.le_of_ble_eq_true rfl) (Nat.le_of_ble_eq_true rfl) rfl ?_
      cases hf
      exact q_kri ok_X7_readHook rfl rfl rfl (Nat.le_of_ble_eq_true rfl) (Nat.le_of_ble_eq_true rfl) ⟨rfl, q_hpe (q_fin [450] rfl) (q_fin [] rfl)⟩
    · have hf := q_in h7 hf
      refine q_blk 4 [] (c' := q_kc (t, 0, m, z, N, ext, rx, L) I E 23 [some (.ref 450), some (.int r6)] [.int ((I 450) 3), .int (3 : Int32), .ref 450] [] []) ok_X7_readHook rfl q_cn ?_
      obtain ⟨r8, hr8, hf⟩ := q_bd hf
      refine q_kV (M2 := m_X7_blame) (As := [.int (3 : Int32), .int ((I 450) 3)]) (b := 450) (v2 := none) ok_X7_readHook ok_X7_blame cv_X7_blame (ct_X7_blame_450 (d := 1) (Nat.le_refl _) hr8) rfl rfl (Or.inl rfl) rfl rfl rfl rfl (Nat.le_trans (Nat.le_of_ble_eq_true rfl) hd) (Nat.le_of_ble_eq_true rfl) (Nat.le_of_ble_eq_true rfl) (Nat.le_of_ble_eq_true rfl) (fun x hx => absurd hx List.not_mem_nil) (q_nmL0 _) (q_nmS0 _) rfl (pos' := 24) (st' := []) (lI' := [(450, r8)]) (lE' := []) rfl rfl rfl rfl ?_
      refine q_blk 8 [] (c' := q_kc (t, 0, m, z, N, ext, rx, L) I E 32 [some (.ref 450), some (.int r6)] [.int (0 : Int32), .int r6] [(450, (q_up r8 3 ((r8 3) + (1 : Int32))))] []) ok_X7_readHook rfl q_cn ?_
      refine q_kmx (pos' := 33) ok_X7_readHook rfl rfl (Nat.le_trans (Nat.le_of_ble_eq_true rfl) hd) (Nat.le_of_ble_eq_true rfl) (Nat.le_of_ble_eq_true rfl) (Nat.le_of_ble_eq_true rfl) rfl ?_
      cases hf
      exact q_kri ok_X7_readHook rfl rfl rfl (Nat.le_of_ble_eq_true rfl) (Nat.le_of_ble_eq_true rfl) ⟨rfl, q_hpe (q_fin [450] rfl) (q_fin [] rfl)⟩
  · have hf := q_in h4 hf
    refine q_blk 1 [] (c' := q_kc (t, 0, m, z, N, ext, rx, L) I E 5 [some (.ref 450), none] [.ref 450] [] []) ok_X7_readHook rfl q_cn ?_
    obtain ⟨r9, hr9, hf⟩ := q_bd hf
    refine q_kV (M2 := m_X7_fail) (As := []) (b := 450) (v2 := none) ok_X7_readHook ok_X7_fail cv_X7_fail (ct_X7_fail_450 (d := 1) (Nat.le_refl _) hr9) rfl rfl (Or.inl rfl) rfl rfl rfl rfl (Nat.le_trans (Nat.le_of_ble_eq_true rfl) hd) (Nat.le_of_ble_eq_true rfl) (Nat.le_of_ble_eq_true rfl) (Nat.le_of_ble_eq_true rfl) (fun x hx => absurd hx List.not_mem_nil) (q_nmL0 _) (q_nmS0 _) rfl (pos' := 6) (st' := []) (lI' := [(450, r9)]) (lE' := []) rfl rfl rfl rfl ?_
    refine q_blk 1 [] (c' := q_kc (t, 0, m, z, N, ext, rx, L) I E 7 [some (.ref 450), none] [.int (0 : Int32)] [(450, r9)] []) ok_X7_readHook rfl q_cn ?_
    cases hf
    exact q_kri ok_X7_readHook rfl rfl rfl (Nat.le_of_ble_eq_true rfl) (Nat.le_of_ble_eq_true rfl) ⟨rfl, q_hpe (q_fin [450] rfl) (q_fin [] rfl)⟩
set_option maxHeartbeats 4000000 in
theorem ct_X7_take_450 {g : q_G} {t : Nat} {r : Nat} {m : Nat} {z : Nat} {N : Nat} {ext : Nat → q_Sh} {rx : Nat → Nat → Option Nat} {L : Nat → Nat → Int64} {d : Nat} (hd : 3 ≤ d)  {I : Nat → Nat → Int32} {E : Nat → Nat → Option Nat} {x1 : Nat} {r0 : Bool × (Nat → Int32)} (hf : f_X7_take (I 450) (I 452) (E 453) x1 = some r0) : q_Ct g m_X7_take d 0 0 [] [.ref 450, .ref x1] (q_hp (t, r, m, z, N, ext, rx, L) I E) (fun o h' => o = .inl (some (.int (q_bz r0.1))) ∧ h' = q_hp (t, r, m, z, N, ext, rx, L) (q_ws I [(450, r0.2)]) (q_ws E [])) := by
  rw [f_X7_take] at hf
  refine q_Ct_of ok_X7_take (Nat.le_of_ble_eq_true rfl) ?_ _ rfl rfl
  change q_J g m_X7_take d 0 0 _ [] _ 0 0 (q_kc (t, r, m, z, N, ext, rx, L) I E 0 [some (.ref 450), some (.ref x1)] [] [] [])
  obtain ⟨ug1, hg1, hf⟩ := q_bd hf
  refine q_blk 1 [] (c' := q_kc (t, r, m, z, N, ext, rx, L) I E 1 [some (.ref 450), some (.ref x1)] [.ref 450] [] []) ok_X7_take rfl q_cn ?_
  obtain ⟨r1, hr1, hf⟩ := q_bd hf
  obtain ⟨u2, hu3, hf⟩ := q_bd hf
  refine q_kV (M2 := m_X7_sign) (As := []) (b := 450) (v2 := some (.ref r1)) ok_X7_take ok_X7_sign cv_X7_sign (ct_X7_sign_450 (d := 2) (Nat.le_refl _) hr1) rfl rfl (Or.inl rfl) rfl rfl rfl rfl (Nat.le_trans (Nat.le_of_ble_eq_true rfl) hd) (Nat.le_of_ble_eq_true rfl) (Nat.le_of_ble_eq_true rfl) (Nat.le_of_ble_eq_true rfl) (fun x hx => absurd hx List.not_mem_nil) (q_nmL0 _) (q_nmS0 _) rfl (pos' := 2) (st' := [.ref r1]) (lI' := []) (lE' := []) rfl rfl rfl rfl ?_
  refine q_blk 1 [] (c' := q_kc (t, r, m, z, N, ext, rx, L) I E 3 [some (.ref 450), some (.ref x1)] [.ref x1, .ref r1] [] []) ok_X7_take rfl q_cn ?_
  refine q_o_acmp_eq ok_X7_take rfl (q_e49_lt hu3) (q_e49_lt hg1) (fun h4 => ?_) (fun h4 => ?_)
  · have hf := q_ip h4 hf
    refine q_blk 7 [] (c' := q_kc (t, r, m, z, N, ext, rx, L) I E 15 [some (.ref 450), some (.ref x1)] [.int (1 : Int32)] [(450, (q_up (I 450) 3 (((I 450) 3) + (1 : Int32))))] []) ok_X7_take rfl q_cn ?_
    cases hf
    exact q_kri ok_X7_take rfl rfl rfl (Nat.le_of_ble_eq_true rfl) (Nat.le_of_ble_eq_true rfl) ⟨rfl, q_hpe (q_fin [450] rfl) (q_fin [] rfl)⟩
  · have hf := q_in h4 hf
    refine q_blk 1 [] (c' := q_kc (t, r, m, z, N, ext, rx, L) I E 5 [some (.ref 450), some (.ref x1)] [.ref 450] [] []) ok_X7_take rfl q_cn ?_
    obtain ⟨r5, hr5, hf⟩ := q_bd hf
    refine q_kV (M2 := m_X7_fail) (As := []) (b := 450) (v2 := none) ok_X7_take ok_X7_fail cv_X7_fail (ct_X7_fail_450 (d := 1) (Nat.le_refl _) hr5) rfl rfl (Or.inl rfl) rfl rfl rfl rfl (Nat.le_trans (Nat.le_of_ble_eq_true rfl) hd) (Nat.le_of_ble_eq_true rfl) (Nat.le_of_ble_eq_true rfl) (Nat.le_of_ble_eq_true rfl) (fun x hx => absurd hx List.not_mem_nil) (q_nmL0 _) (q_nmS0 _) rfl (pos' := 6) (st' := []) (lI' := [(450, r5)]) (lE' := []) rfl rfl rfl rfl ?_
    refine q_blk 1 [] (c' := q_kc (t, r, m, z, N, ext, rx, L) I E 7 [some (.ref 450), some (.ref x1)] [.int (0 : Int32)] [(450, r5)] []) ok_X7_take rfl q_cn ?_
    cases hf
    exact q_kri ok_X7_take rfl rfl rfl (Nat.le_of_ble_eq_true rfl) (Nat.le_of_ble_eq_true rfl) ⟨rfl, q_hpe (q_fin [450] rfl) (q_fin [] rfl)⟩
set_option maxHeartbeats 4000000 in
theorem ct_X6_addOrder_426 {g : q_G} {t : Nat} {r : Nat} {m : Nat} {z : Nat} {N : Nat} {ext : Nat → q_Sh} {rx : Nat → Nat → Option Nat} {L : Nat → Nat → Int64} {d : Nat} (hd : 1 ≤ d)  {I : Nat → Nat → Int32} {E : Nat → Nat → Option Nat} {x1 : Nat} {x2 : Int32} {r0 : (Nat → Int32) × (Nat → Int32) × (Nat → Option Nat)} (hf : f_X6_addOrder (I 426) (I 429) (E 428) x1 x2 = some r0) : q_Ct g m_X6_addOrder d 0 0 [] [.ref 426, .ref x1, .int x2] (q_hp (t, r, m, z, N, ext, rx, L) I E) (fun o h' => o = .inl none ∧ h' = q_hp (t, r, m, z, N, ext, rx, L) (q_ws I [(426, r0.1), (429, r0.2.1)]) (q_ws E [(428, r0.2.2)])) := by
  rw [f_X6_addOrder] at hf
  refine q_Ct_of ok_X6_addOrder (Nat.le_of_ble_eq_true rfl) ?_ _ rfl rfl
  change q_J g m_X6_addOrder d 0 0 _ [] _ 0 0 (q_kc (t, r, m, z, N, ext, rx, L) I E 0 [some (.ref 426), some (.ref x1), some (.int x2)] [] [] [])
  obtain ⟨ug1, hg1, hf⟩ := q_bd hf
  refine q_blf 2 [] (a := q_kc (t, r, m, z, N, ext, rx, L) I E 25 [some (.ref 426), some (.ref x1), some (.int x2)] [] [] []) (b := q_kc (t, r, m, z, N, ext, rx, L) I E 3 [some (.ref 426), some (.ref x1), some (.int x2)] [] [] []) (P := ((I 426) 5) < 0) ok_X6_addOrder rfl q_cn (fun h1 => ?_) (fun h1 => ?_)
  · have hf := q_ip h1 hf
    cases hf
    exact q_krv ok_X6_addOrder rfl rfl (Nat.le_of_ble_eq_true rfl) (Nat.le_of_ble_eq_true rfl) ⟨rfl, q_hpe (q_fin [426, 429] rfl) (q_fin [428] rfl)⟩
  · have hf := q_in h1 hf
    refine q_blf 3 [] (a := q_kc (t, r, m, z, N, ext, rx, L) I E 25 [some (.ref 426), some (.ref x1), some (.int x2)] [] [] []) (b := q_kc (t, r, m, z, N, ext, rx, L) I E 7 [some (.ref 426), some (.ref x1), some (.int x2)] [] [] []) (P := (400 : Int32) ≤ ((I 426) 5)) ok_X6_addOrder rfl q_cn (fun h2 => ?_) (fun h2 => ?_)
    · have hf := q_ip h2 hf
      cases hf
      exact q_krv ok_X6_addOrder rfl rfl (Nat.le_of_ble_eq_true rfl) (Nat.le_of_ble_eq_true rfl) ⟨rfl, q_hpe (q_fin [426, 429] rfl) (q_fin [428] rfl)⟩
    · have hf := q_in h2 hf
      obtain ⟨j3, hj3, hf⟩ := q_bd hf
      refine q_blk 5 [] (c' := q_kc (t, r, m, z, N, ext, rx, L) I E 12 [some (.ref 426), some (.ref x1), some (.int x2)] [.ref x1, .int ((I 426) 5), .ref 428] [] []) ok_X6_addOrder rfl q_cn ?_
      refine q_kaS (pos' := 13) (lE' := [(428, (q_up (E 428) j3 (some x1)))]) ok_X6_addOrder rfl rfl rfl hj3 rfl (q_e49_lt hg1) rfl rfl ?_
      obtain ⟨j4, hj4, hf⟩ := q_bd hf
      refine q_blk 12 [j4] (c' := q_kc (t, r, m, z, N, ext, rx, L) I E 25 [some (.ref 426), some (.ref x1), some (.int x2)] [] [(426, (q_up (I 426) 5 (((I 426) 5) + (1 : Int32)))), (429, (q_up (I 429) j4 x2))] [(428, (q_up (E 428) j3 (some x1)))]) ok_X6_addOrder rfl (q_cc hj4 q_cn) ?_
      cases hf
      exact q_krv ok_X6_addOrder rfl rfl (Nat.le_of_ble_eq_true rfl) (Nat.le_of_ble_eq_true rfl) ⟨rfl, q_hpe (q_fin [426, 429] rfl) (q_fin [428] rfl)⟩
set_option maxHeartbeats 4000000 in
theorem ct_X7_takeDeeper_450 {g : q_G} {t : Nat} {r : Nat} {m : Nat} {z : Nat} {N : Nat} {ext : Nat → q_Sh} {rx : Nat → Nat → Option Nat} {L : Nat → Nat → Int64} {d : Nat} (hd : 2 ≤ d)  {I : Nat → Nat → Int32} {E : Nat → Nat → Option Nat} {x1 : Int32} {r0 : Bool × (Nat → Int32)} (hf : f_X7_takeDeeper (I 450) x1 = some r0) : q_Ct g m_X7_takeDeeper d 0 0 [] [.ref 450, .int x1] (q_hp (t, r, m, z, N, ext, rx, L) I E) (fun o h' => o = .inl (some (.int (q_bz r0.1))) ∧ h' = q_hp (t, r, m, z, N, ext, rx, L) (q_ws I [(450, r0.2)]) (q_ws E [])) := by
  rw [f_X7_takeDeeper] at hf
  refine q_Ct_of ok_X7_takeDeeper (Nat.le_of_ble_eq_true rfl) ?_ _ rfl rfl
  change q_J g m_X7_takeDeeper d 0 0 _ [] _ 0 0 (q_kc (t, r, m, z, N, ext, rx, L) I E 0 [some (.ref 450), some (.int x1)] [] [] [])
  refine q_blf 2 [] (a := q_kc (t, r, m, z, N, ext, rx, L) I E 7 [some (.ref 450), some (.int x1)] [] [] []) (b := q_kc (t, r, m, z, N, ext, rx, L) I E 3 [some (.ref 450), some (.int x1)] [] [] []) (P := x1 < (8 : Int32)) ok_X7_takeDeeper rfl q_cn (fun h1 => ?_) (fun h1 => ?_)
  · have hf := q_ip h1 hf
    refine q_blk 7 [] (c' := q_kc (t, r, m, z, N, ext, rx, L) I E 14 [some (.ref 450), some (.int x1)] [.int (1 : Int32)] [(450, (q_up (I 450) 3 (((I 450) 3) + (1 : Int32))))] []) ok_X7_takeDeeper rfl q_cn ?_
    cases hf
    exact q_kri ok_X7_takeDeeper rfl rfl rfl (Nat.le_of_ble_eq_true rfl) (Nat.le_of_ble_eq_true rfl) ⟨rfl, q_hpe (q_fin [450] rfl) (q_fin [] rfl)⟩
  · have hf := q_in h1 hf
    refine q_blk 1 [] (c' := q_kc (t, r, m, z, N, ext, rx, L) I E 4 [some (.ref 450), some (.int x1)] [.ref 450] [] []) ok_X7_takeDeeper rfl q_cn ?_
    obtain ⟨r2, hr2, hf⟩ := q_bd hf
    refine q_kV (M2 := m_X7_fail) (As := []) (b := 450) (v2 := none) ok_X7_takeDeeper ok_X7_fail cv_X7_fail (ct_X7_fail_450 (d := 1) (Nat.le_refl _) hr2) rfl rfl (Or.inl rfl) rfl rfl rfl rfl (Nat.le_trans (Nat.le_of_ble_eq_true rfl) hd) (Nat.le_of_ble_eq_true rfl) (Nat.le_of_ble_eq_true rfl) (Nat.le_of_ble_eq_true rfl) (fun x hx => absurd hx List.not_mem_nil) (q_nmL0 _) (q_nmS0 _) rfl (pos' := 5) (st' := []) (lI' := [(450, r2)]) (lE' := []) rfl rfl rfl rfl ?_
    refine q_blk 1 [] (c' := q_kc (t, r, m, z, N, ext, rx, L) I E 6 [some (.ref 450), some (.int x1)] [.int (0 : Int32)] [(450, r2)] []) ok_X7_takeDeeper rfl q_cn ?_
    cases hf
    exact q_kri ok_X7_takeDeeper rfl rfl rfl (Nat.le_of_ble_eq_true rfl) (Nat.le_of_ble_eq_true rfl) ⟨rfl, q_hpe (q_fin [450] rfl) (q_fin [] rfl)⟩
set_option maxHeartbeats 4000000 in
theorem ct_X7_readPair_450 {g : q_G} {t : Nat} {m : Nat} {z : Nat} {N : Nat} {ext : Nat → q_Sh} {rx : Nat → Nat → Option Nat} {L : Nat → Nat → Int64} {dR : Nat}  {r_readSum : (Nat → Int32) → (Nat → Int32) → (Nat → Int32) → (Nat → Int32) → (Nat → Int32) → (Nat → Int32) → (Nat → Option Nat) → (Nat → Option Nat) → Int32 → Option ((Nat → Int32) × (Nat → Int32) × (Nat → Int32) × (Nat → Option Nat))} (hq_readSum : ∀ {I : Nat → Nat → Int32} {E : Nat → Nat → Option Nat} {dd : Int32} {r0 : (Nat → Int32) × (Nat → Int32) × (Nat → Int32) × (Nat → Option Nat)}, r_readSum ((I 426)) ((I 429)) ((I 450)) ((I 451)) ((I 452)) ((I 456)) ((E 428)) ((E 453)) dd = some r0 → q_Ct g m_X7_readSum dR 0 0 [] [.ref 450, .int dd] (q_hp (t, 0, m, z, N, ext, rx, L) I E) (fun o h' => o = .inl none ∧ h' = q_hp (t, 0, m, z, N, ext, rx, L) (q_ws I [(426, r0.1), (429, r0.2.1), (450, r0.2.2.1)]) (q_ws E [(428, r0.2.2.2)]))){I : Nat → Nat → Int32} {E : Nat → Nat → Option Nat} {x1 : Nat} {x2 : Int32} {r0 : (Nat → Int32) × (Nat → Int32) × (Nat → Int32) × (Nat → Option Nat)} (hf : f_X7_readPair r_readSum (I 426) (I 429) (I 450) (I 451) (I 452) (I 456) (E 428) (E 453) x1 x2 = some r0) : q_Ct g m_X7_readPair (dR + 4) 0 0 [] [.ref 450, .ref x1, .int x2] (q_hp (t, 0, m, z, N, ext, rx, L) I E) (fun o h' => o = .inl none ∧ h' = q_hp (t, 0, m, z, N, ext, rx, L) (q_ws I [(426, r0.1), (429, r0.2.1), (450, r0.2.2.1)]) (q_ws E [(428, r0.2.2.2)])) := by
  rw [f_X7_readPair] at hf
  refine q_Ct_of ok_X7_readPair (Nat.le_of_ble_eq_true rfl) ?_ _ rfl rfl
  change q_J g m_X7_readPair (dR + 4) 0 0 _ [] _ 0 0 (q_kc (t, 0, m, z, N, ext, rx, L) I E 0 [some (.ref 450), some (.ref x1), some (.int x2)] [] [] [])
  obtain ⟨ug1, hg1, hf⟩ := q_bd hf
  refine q_blk 1 [] (c' := q_kc (t, 0, m, z, N, ext, rx, L) I E 1 [some (.ref 450), some (.ref x1), some (.int x2)] [.ref 450] [] []) ok_X7_readPair rfl q_cn ?_
  obtain ⟨r1, hr1, hf⟩ := q_bd hf
  obtain ⟨u2, hu3, hf⟩ := q_bd hf
  refine q_kV (M2 := m_X7_sign) (As := []) (b := 450) (v2 := some (.ref r1)) ok_X7_readPair ok_X7_sign cv_X7_sign (ct_X7_sign_450 (d := 2) (Nat.le_refl _) hr1) rfl rfl (Or.inl rfl) rfl rfl rfl rfl (by omega) (Nat.le_of_ble_eq_true rfl) (Nat.le_of_ble_eq_true rfl) (Nat.le_of_ble_eq_true rfl) (fun x hx => absurd hx List.not_mem_nil) (q_nmL0 _) (q_nmS0 _) rfl (pos' := 2) (st' := [.ref r1]) (lI' := []) (lE' := []) rfl rfl rfl rfl ?_
  refine q_blk 1 [] (c' := q_kc (t, 0, m, z, N, ext, rx, L) I E 3 [some (.ref 450), some (.ref x1), some (.int x2)] [.ref 34, .ref r1] [] []) ok_X7_readPair rfl q_cn ?_
  refine q_o_acmp_eq ok_X7_readPair rfl (q_e49_lt hu3) (Nat.lt_of_lt_of_le (Nat.lt_succ_self _) (Nat.le_of_ble_eq_true rfl)) (fun h4 => ?_) (fun h4 => ?_)
  · have hf := q_ip h4 hf
    refine q_blk 2 [] (c' := q_kc (t, 0, m, z, N, ext, rx, L) I E 9 [some (.ref 450), some (.ref x1), some (.int x2)] [.int x2, .ref 450] [] []) ok_X7_readPair rfl q_cn ?_
    obtain ⟨r5, hr5, hf⟩ := q_bd hf
    refine q_kV (M2 := m_X7_takeDeeper) (As := [.int x2]) (b := 450) (v2 := some (.int (q_bz r5.1))) ok_X7_readPair ok_X7_takeDeeper cv_X7_takeDeeper (ct_X7_takeDeeper_450 (d := 2) (Nat.le_refl _) hr5) rfl rfl (Or.inl rfl) rfl rfl rfl rfl (by omega) (Nat.le_of_ble_eq_true rfl) (Nat.le_of_ble_eq_true rfl) (Nat.le_of_ble_eq_true rfl) (fun x hx => absurd hx List.not_mem_nil) (q_nmL0 _) (q_nmS0 _) rfl (pos' := 10) (st' := [.int (q_bz r5.1)]) (lI' := [(450, r5.2)]) (lE' := []) rfl rfl rfl rfl ?_
    refine q_blf 0 [] (a := q_kc (t, 0, m, z, N, ext, rx, L) I E 34 [some (.ref 450), some (.ref x1), some (.int x2)] [] [(450, r5.2)] []) (b := q_kc (t, 0, m, z, N, ext, rx, L) I E 11 [some (.ref 450), some (.ref x1), some (.int x2)] [] [(450, r5.2)] []) (P := (q_bz r5.1) = 0) ok_X7_readPair rfl q_cn (fun h6 => ?_) (fun h6 => ?_)
    · have hf := q_ip h6 hf
      cases hf
      exact q_krv ok_X7_readPair rfl rfl (Nat.le_of_ble_eq_true rfl) (Nat.le_of_ble_eq_true rfl) ⟨rfl, q_hpe (q_fin [426, 429, 450] rfl) (q_fin [428] rfl)⟩
    · have hf := q_in h6 hf
      refine q_blk 4 [] (c' := q_kc (t, 0, m, z, N, ext, rx, L) I E 15 [some (.ref 450), some (.ref x1), some (.int x2)] [.int (x2 + (1 : Int32)), .ref 450] [(450, r5.2)] []) ok_X7_readPair rfl q_cn ?_
      obtain ⟨r7, hr7, hf⟩ := q_bd hf
      refine q_kV (M2 := m_X7_readSum) (As := [.int (x2 + (1 : Int32))]) (b := 450) (v2 := none) ok_X7_readPair ok_X7_readSum cv_X7_readSum (hq_readSum hr7) rfl rfl (Or.inl rfl) rfl rfl rfl rfl (by omega) (Nat.le_of_ble_eq_true rfl) (Nat.le_of_ble_eq_true rfl) (Nat.le_of_ble_eq_true rfl) (fun x hx => absurd hx List.not_mem_nil) (q_nmL0 _) (q_nmS0 _) rfl (pos' := 16) (st' := []) (lI' := [(426, r7.1), (429, r7.2.1), (450, r7.2.2.1)]) (lE' := [(428, r7.2.2.2)]) rfl rfl rfl rfl ?_
      refine q_blk 2 [] (c' := q_kc (t, 0, m, z, N, ext, rx, L) I E 18 [some (.ref 450), some (.ref x1), some (.int x2)] [.ref 39, .ref 450] [(426, r7.1), (429, r7.2.1), (450, r7.2.2.1)] [(428, r7.2.2.2)]) ok_X7_readPair rfl q_cn ?_
      obtain ⟨r8, hr8, hf⟩ := q_bd hf
      refine q_kV (M2 := m_X7_take) (As := [.ref 39]) (b := 450) (v2 := some (.int (q_bz r8.1))) ok_X7_readPair ok_X7_take cv_X7_take (ct_X7_take_450 (d := 3) (Nat.le_refl _) hr8) rfl rfl (Or.inl rfl) rfl rfl rfl rfl (by omega) (Nat.le_of_ble_eq_true rfl) (Nat.le_of_ble_eq_true rfl) (Nat.le_of_ble_eq_true rfl) (fun x hx => absurd hx List.not_mem_nil) (q_nmL0 _) (q_nmS0 _) rfl (pos' := 19) (st' := [.int (q_bz r8.1)]) (lI' := [(426, r7.1), (429, r7.2.1), (450, r8.2)]) (lE' := [(428, r7.2.2.2)]) rfl rfl rfl rfl ?_
      refine q_blk 5 [] (c' := q_kc (t, 0, m, z, N, ext, rx, L) I E 24 [some (.ref 450), some (.ref x1), some (.int x2)] [.int (x2 + (1 : Int32)), .ref 450] [(426, r7.1), (429, r7.2.1), (450, r8.2)] [(428, r7.2.2.2)]) ok_X7_readPair rfl q_cn ?_
      obtain ⟨r9, hr9, hf⟩ := q_bd hf
      refine q_kV (M2 := m_X7_readSum) (As := [.int (x2 + (1 : Int32))]) (b := 450) (v2 := none) ok_X7_readPair ok_X7_readSum cv_X7_readSum (hq_readSum hr9) rfl rfl (Or.inl rfl) rfl rfl rfl rfl (by omega) (Nat.le_of_ble_eq_true rfl) (Nat.le_of_ble_eq_true rfl) (Nat.le_of_ble_eq_true rfl) (fun x hx => absurd hx List.not_mem_nil) (q_nmL0 _) (q_nmS0 _) rfl (pos' := 25) (st' := []) (lI' := [(426, r9.1), (429, r9.2.1), (450, r9.2.2.1)]) (lE' := [(428, r9.2.2.2)]) rfl rfl rfl rfl ?_
      refine q_blk 2 [] (c' := q_kc (t, 0, m, z, N, ext, rx, L) I E 27 [some (.ref 450), some (.ref x1), some (.int x2)] [.ref 35, .ref 450] [(426, r9.1), (429, r9.2.1), (450, r9.2.2.1)] [(428, r9.2.2.2)]) ok_X7_readPair rfl q_cn ?_
      obtain ⟨r10, hr10, hf⟩ := q_bd hf
      refine q_kV (M2 := m_X7_take) (As := [.ref 35]) (b := 450) (v2 := some (.int (q_bz r10.1))) ok_X7_readPair ok_X7_take cv_X7_take (ct_X7_take_450 (d := 3) (Nat.le_refl _) hr10) rfl rfl (Or.inl rfl) rfl rfl rfl rfl (by omega) (Nat.le_of_ble_eq_true rfl) (Nat.le_of_ble_eq_true rfl) (Nat.le_of_ble_eq_true rfl) (fun x hx => absurd hx List.not_mem_nil) (q_nmL0 _) (q_nmS0 _) rfl (pos' := 28) (st' := [.int (q_bz r10.1)]) (lI' := [(426, r9.1), (429, r9.2.1), (450, r10.2)]) (lE' := [(428, r9.2.2.2)]) rfl rfl rfl rfl ?_
      refine q_blk 5 [] (c' := q_kc (t, 0, m, z, N, ext, rx, L) I E 33 [some (.ref 450), some (.ref x1), some (.int x2)] [.int (0 : Int32), .ref x1, .ref 426] [(426, r9.1), (429, r9.2.1), (450, r10.2)] [(428, r9.2.2.2)]) ok_X7_readPair rfl q_cn ?_
      obtain ⟨r11, hr11, hf⟩ := q_bd hf
      refine q_kV (M2 := m_X6_addOrder) (As := [.ref x1, .int (0 : Int32)]) (b := 426) (v2 := none) ok_X7_readPair ok_X6_addOrder cv_X6_addOrder (ct_X6_addOrder_426 (d := 1) (Nat.le_refl _) hr11) rfl rfl (Or.inl rfl) rfl rfl rfl rfl (by omega) (Nat.le_of_ble_eq_true rfl) (Nat.le_of_ble_eq_true rfl) (Nat.le_of_ble_eq_true rfl) (fun x hx => absurd hx List.not_mem_nil) (q_nmL0 _) (q_nmS0 _) rfl (pos' := 34) (st' := []) (lI' := [(426, r11.1), (429, r11.2.1), (450, r10.2)]) (lE' := [(428, r11.2.2)]) rfl rfl rfl rfl ?_
      cases hf
      exact q_krv ok_X7_readPair rfl rfl (Nat.le_of_ble_eq_true rfl) (Nat.le_of_ble_eq_true rfl) ⟨rfl, q_hpe (q_fin [426, 429, 450] rfl) (q_fin [428] rfl)⟩
  · have hf := q_in h4 hf
    refine q_blk 1 [] (c' := q_kc (t, 0, m, z, N, ext, rx, L) I E 5 [some (.ref 450), some (.ref x1), some (.int x2)] [.ref 450] [] []) ok_X7_readPair rfl q_cn ?_
    obtain ⟨r12, hr12, hf⟩ := q_bd hf
    refine q_kV (M2 := m_X7_fail) (As := []) (b := 450) (v2 := none) ok_X7_readPair ok_X7_fail cv_X7_fail (ct_X7_fail_450 (d := 1) (Nat.le_refl _) hr12) rfl rfl (Or.inl rfl) rfl rfl rfl rfl (by omega) (Nat.le_of_ble_eq_true rfl) (Nat.le_of_ble_eq_true rfl) (Nat.le_of_ble_eq_true rfl) (fun x hx => absurd hx List.not_mem_nil) (q_nmL0 _) (q_nmS0 _) rfl (pos' := 6) (st' := []) (lI' := [(450, r12)]) (lE' := []) rfl rfl rfl rfl ?_
    refine q_blk 1 [] (c' := q_kc (t, 0, m, z, N, ext, rx, L) I E 34 [some (.ref 450), some (.ref x1), some (.int x2)] [] [(450, r12)] []) ok_X7_readPair rfl q_cn ?_
    cases hf
    exact q_krv ok_X7_readPair rfl rfl (Nat.le_of_ble_eq_true rfl) (Nat.le_of_ble_eq_true rfl) ⟨rfl, q_hpe (q_fin [426, 429, 450] rfl) (q_fin [428] rfl)⟩
set_option maxHeartbeats 4000000 in
theorem ct_X7_readValue_450 {g : q_G} {t : Nat} {m : Nat} {z : Nat} {N : Nat} {ext : Nat → q_Sh} {rx : Nat → Nat → Option Nat} {L : Nat → Nat → Int64} {dR : Nat}  {r_readValue : (Nat → Int32) → (Nat → Int32) → (Nat → Int32) → (Nat → Int32) → (Nat → Int32) → (Nat → Int32) → (Nat → Option Nat) → (Nat → Option Nat) → Int32 → Option ((Nat → Int32) × (Nat → Int32) × (Nat → Int32) × (Nat → Option Nat))} (hq_readValue : ∀ {I : Nat → Nat → Int32} {E : Nat → Nat → Option Nat} {dd : Int32} {r0 : (Nat → Int32) × (Nat → Int32) × (Nat → Int32) × (Nat → Option Nat)}, r_readValue ((I 426)) ((I 429)) ((I 450)) ((I 451)) ((I 452)) ((I 456)) ((E 428)) ((E 453)) dd = some r0 → q_Ct g m_X7_readValue dR 0 0 [] [.ref 450, .int dd] (q_hp (t, 0, m, z, N, ext, rx, L) I E) (fun o h' => o = .inl none ∧ h' = q_hp (t, 0, m, z, N, ext, rx, L) (q_ws I [(426, r0.1), (429, r0.2.1), (450, r0.2.2.1)]) (q_ws E [(428, r0.2.2.2)]))) {r_readSum : (Nat → Int32) → (Nat → Int32) → (Nat → Int32) → (Nat → Int32) → (Nat → Int32) → (Nat → Int32) → (Nat → Option Nat) → (Nat → Option Nat) → Int32 → Option ((Nat → Int32) × (Nat → Int32) × (Nat → Int32) × (Nat → Option Nat))} (hq_readSum : ∀ {I : Nat → Nat → Int32} {E : Nat → Nat → Option Nat} {dd : Int32} {r0 : (Nat → Int32) × (Nat → Int32) × (Nat → Int32) × (Nat → Option Nat)}, r_readSum ((I 426)) ((I 429)) ((I 450)) ((I 451)) ((I 452)) ((I 456)) ((E 428)) ((E 453)) dd = some r0 → q_Ct g m_X7_readSum dR 0 0 [] [.ref 450, .int dd] (q_hp (t, 0, m, z, N, ext, rx, L) I E) (fun o h' => o = .inl none ∧ h' = q_hp (t, 0, m, z, N, ext, rx, L) (q_ws I [(426, r0.1), (429, r0.2.1), (450, r0.2.2.1)]) (q_ws E [(428, r0.2.2.2)]))){I : Nat → Nat → Int32} {E : Nat → Nat → Option Nat} {x1 : Int32} {r0 : (Nat → Int32) × (Nat → Int32) × (Nat → Int32) × (Nat → Option Nat)} (hf : f_X7_readValue r_readValue r_readSum (I 426) (I 429) (I 450) (I 451) (I 452) (I 456) (E 428) (E 453) x1 = some r0) : q_Ct g m_X7_readValue (dR + 5) 0 0 [] [.ref 450, .int x1] (q_hp (t, 0, m, z, N, ext, rx, L) I E) (fun o h' => o = .inl none ∧ h' = q_hp (t, 0, m, z, N, ext, rx, L) (q_ws I [(426, r0.1), (429, r0.2.1), (450, r0.2.2.1)]) (q_ws E [(428, r0.2.2.2)])) := by
  rw [f_X7_readValue] at hf
  refine q_Ct_of ok_X7_readValue (Nat.le_of_ble_eq_true rfl) ?_ _ rfl rfl
  change q_J g m_X7_readValue (dR + 5) 0 0 _ [] _ 0 0 (q_kc (t, 0, m, z, N, ext, rx, L) I E 0 [some (.ref 450), some (.int x1), none] [] [] [])
  refine q_blk 1 [] (c' := q_kc (t, 0, m, z, N, ext, rx, L) I E 1 [some (.ref 450), some (.int x1), none] [.ref 450] [] []) ok_X7_readValue rfl q_cn ?_
  obtain ⟨r1, hr1, hf⟩ := q_bd hf
  obtain ⟨u2, hu3, hf⟩ := q_bd hf
  refine q_kV (M2 := m_X7_sign) (As := []) (b := 450) (v2 := some (.ref r1)) ok_X7_readValue ok_X7_sign cv_X7_sign (ct_X7_sign_450 (d := 2) (Nat.le_refl _) hr1) rfl rfl (Or.inl rfl) rfl rfl rfl rfl (by omega) (Nat.le_of_ble_eq_true rfl) (Nat.le_of_ble_eq_true rfl) (Nat.le_of_ble_eq_true rfl) (fun x hx => absurd hx List.not_mem_nil) (q_nmL0 _) (q_nmS0 _) rfl (pos' := 2) (st' := [.ref r1]) (lI' := []) (lE' := []) rfl rfl rfl rfl ?_
  refine q_blk 3 [] (c' := q_kc (t, 0, m, z, N, ext, rx, L) I E 5 [some (.ref 450), some (.int x1), some (.ref r1)] [.ref r1, .ref 50] [] []) ok_X7_readValue rfl q_cn ?_
  refine q_kord (pos' := 6) ok_X7_readValue rfl (Or.inl rfl) (q_e49_lt hu3) (by omega) (Nat.le_of_ble_eq_true rfl) (Nat.le_of_ble_eq_true rfl) rfl ?_
  obtain ⟨j4, hj4, hf⟩ := q_bd hf
  refine q_blk 1 [j4] (c' := q_kc (t, 0, m, z, N, ext, rx, L) I E 7 [some (.ref 450), some (.int x1), some (.ref r1)] [.int (q_sw j4)] [] []) ok_X7_readValue rfl (q_cc hj4 q_cn) ?_
  refine q_ksw [8, 24, 24, 24, 24, 24, 36, 36, 53, 68, 82, 82] ok_X7_readValue rfl (dp := 93) rfl (fun ix t9 ht9 hx9 => ?_) (fun hx9 => ?_) (by decide) (by decide)
  · match ix, ht9 with
    | 0, ht9 =>
      have hx9 : (q_sw j4) = 9 := hx9
      cases ht9
      have hf := q_ip hx9 hf
      refine q_blk 7 [] (c' := q_kc (t, 0, m, z, N, ext, rx, L) I E 15 [some (.ref 450), some (.int x1), some (.ref r1)] [.int ((I 450) 3), .ref 452, .ref r1, .ref 426] [] []) ok_X7_readValue rfl q_cn ?_
      obtain ⟨r5, hr5, hf⟩ := q_bd hf
      refine q_kV (M2 := m_X11_value) (As := [.int ((I 450) 3)]) (b := 452) (v2 := some (.int r5)) ok_X7_readValue ok_X11_value cv_X11_value (ct_X11_value_452 (d := 1) (Nat.le_refl _) hr5) rfl rfl (Or.inl rfl) rfl rfl rfl rfl (by omega) (Nat.le_of_ble_eq_true rfl) (Nat.le_of_ble_eq_true rfl) (Nat.le_of_ble_eq_true rfl) (fun x hx => absurd hx List.not_mem_nil) (q_nmL0 _) (q_nmS0 _) rfl (pos' := 16) (st' := [.int r5, .ref r1, .ref 426]) (lI' := []) (lE' := []) rfl rfl rfl rfl ?_
      obtain ⟨r6, hr6, hf⟩ := q_bd hf
      refine q_kV (M2 := m_X6_addOrder) (As := [.ref r1, .int r5]) (b := 426) (v2 := none) ok_X7_readValue ok_X6_addOrder cv_X6_addOrder (ct_X6_addOrder_426 (d := 1) (Nat.le_refl _) hr6) rfl rfl (Or.inl rfl) rfl rfl rfl rfl (by omega) (Nat.le_of_ble_eq_true rfl) (Nat.le_of_ble_eq_true rfl) (Nat.le_of_ble_eq_true rfl) (fun x hx => absurd hx List.not_mem_nil) (q_nmL0 _) (q_nmS0 _) rfl (pos' := 17) (st' := []) (lI' := [(426, r6.1), (429, r6.2.1)]) (lE' := [(428, r6.2.2)]) rfl rfl rfl rfl ?_
      refine q_blk 7 [] (c' := q_kc (t, 0, m, z, N, ext, rx, L) I E 95 [some (.ref 450), some (.int x1), some (.ref r1)] [] [(426, r6.1), (429, r6.2.1), (450, (q_up (I 450) 3 (((I 450) 3) + (1 : Int32))))] [(428, r6.2.2)]) ok_X7_readValue rfl q_cn ?_
      cases hf
      exact q_krv ok_X7_readValue rfl rfl (Nat.le_of_ble_eq_true rfl) (Nat.le_of_ble_eq_true rfl) ⟨rfl, q_hpe (q_fin [426, 429, 450] rfl) (q_fin [428] rfl)⟩
    | 1, ht9 =>
      have hx9 : (q_sw j4) = 10 := hx9
      cases ht9
      have hf := q_in (fun hz9 => absurd (hx9.symm.trans hz9) (by decide)) hf
      have hf := q_ip hx9 hf
      refine q_blk 4 [] (c' := q_kc (t, 0, m, z, N, ext, rx, L) I E 28 [some (.ref 450), some (.int x1), some (.ref r1)] [.int (0 : Int32), .ref r1, .ref 426] [] []) ok_X7_readValue rfl q_cn ?_
      obtain ⟨r7, hr7, hf⟩ := q_bd hf
      refine q_kV (M2 := m_X6_addOrder) (As := [.ref r1, .int (0 : Int32)]) (b := 426) (v2 := none) ok_X7_readValue ok_X6_addOrder cv_X6_addOrder (ct_X6_addOrder_426 (d := 1) (Nat.le_refl _) hr7) rfl rfl (Or.inl rfl) rfl rfl rfl rfl (by omega) (Nat.le_of_ble_eq_true rfl) (Nat.le_of_ble_eq_true rfl) (Nat.le_of_ble_eq_true rfl) (fun x hx => absurd hx List.not_mem_nil) (q_nmL0 _) (q_nmS0 _) rfl (pos' := 29) (st' := []) (lI' := [(426, r7.1), (429, r7.2.1)]) (lE' := [(428, r7.2.2)]) rfl rfl rfl rfl ?_
      refine q_blk 7 [] (c' := q_kc (t, 0, m, z, N, ext, rx, L) I E 95 [some (.ref 450), some (.int x1), some (.ref r1)] [] [(426, r7.1), (429, r7.2.1), (450, (q_up (I 450) 3 (((I 450) 3) + (1 : Int32))))] [(428, r7.2.2)]) ok_X7_readValue rfl q_cn ?_
      cases hf
      exact q_krv ok_X7_readValue rfl rfl (Nat.le_of_ble_eq_true rfl) (Nat.le_of_ble_eq_true rfl) ⟨rfl, q_hpe (q_fin [426, 429, 450] rfl) (q_fin [428] rfl)⟩
    | 2, ht9 =>
      have hx9 : (q_sw j4) = 11 := hx9
      cases ht9
      have hf := q_in (fun hz9 => absurd (hx9.symm.trans hz9) (by decide)) hf
      have hf := q_in (fun hz9 => absurd (hx9.symm.trans hz9) (by decide)) hf
      have hf := q_ip hx9 hf
      refine q_blk 4 [] (c' := q_kc (t, 0, m, z, N, ext, rx, L) I E 28 [some (.ref 450), some (.int x1), some (.ref r1)] [.int (0 : Int32), .ref r1, .ref 426] [] []) ok_X7_readValue rfl q_cn ?_
      obtain ⟨r8, hr8, hf⟩ := q_bd hf
      refine q_kV (M2 := m_X6_addOrder) (As := [.ref r1, .int (0 : Int32)]) (b := 426) (v2 := none) ok_X7_readValue ok_X6_addOrder cv_X6_addOrder (ct_X6_addOrder_426 (d := 1) (Nat.le_refl _) hr8) rfl rfl (Or.inl rfl) rfl rfl rfl rfl (by omega) (Nat.le_of_ble_eq_true rfl) (Nat.le_of_ble_eq_true rfl) (Nat.le_of_ble_eq_true rfl) (fun x hx => absurd hx List.not_mem_nil) (q_nmL0 _) (q_nmS0 _) rfl (pos' := 29) (st' := []) (lI' := [(426, r8.1), (429, r8.2.1)]) (lE' := [(428, r8.2.2)]) rfl rfl rfl rfl ?_
      refine q_blk 7 [] (c' := q_kc (t, 0, m, z, N, ext, rx, L) I E 95 [some (.ref 450), some (.int x1), some (.ref r1)] [] [(426, r8.1), (429, r8.2.1), (450, (q_up (I 450) 3 (((I 450) 3) + (1 : Int32))))] [(428, r8.2.2)]) ok_X7_readValue rfl q_cn ?_
      cases hf
      exact q_krv ok_X7_readValue rfl rfl (Nat.le_of_ble_eq_true rfl) (Nat.le_of_ble_eq_true rfl) ⟨rfl, q_hpe (q_fin [426, 429, 450] rfl) (q_fin [428] rfl)⟩
    | 3, ht9 =>
      have hx9 : (q_sw j4) = 12 := hx9
      cases ht9
      have hf := q_in (fun hz9 => absurd (hx9.symm.trans hz9) (by decide)) hf
      have hf := q_in (fun hz9 => absurd (hx9.symm.trans hz9) (by decide)) hf
      have hf := q_in (fun hz9 => absurd (hx9.symm.trans hz9) (by decide)) hf
      have hf := q_ip hx9 hf
      refine q_blk 4 [] (c' := q_kc (t, 0, m, z, N, ext, rx, L) I E 28 [some (.ref 450), some (.int x1), some (.ref r1)] [.int (0 : Int32), .ref r1, .ref 426] [] []) ok_X7_readValue rfl q_cn ?_
      obtain ⟨r9, hr9, hf⟩ := q_bd hf
      refine q_kV (M2 := m_X6_addOrder) (As := [.ref r1, .int (0 : Int32)]) (b := 426) (v2 := none) ok_X7_readValue ok_X6_addOrder cv_X6_addOrder (ct_X6_addOrder_426 (d := 1) (Nat.le_refl _) hr9) rfl rfl (Or.inl rfl) rfl rfl rfl rfl (by omega) (Nat.le_of_ble_eq_true rfl) (Nat.le_of_ble_eq_true rfl) (Nat.le_of_ble_eq_true rfl) (fun x hx => absurd hx List.not_mem_nil) (q_nmL0 _) (q_nmS0 _) rfl (pos' := 29) (st' := []) (lI' := [(426, r9.1), (429, r9.2.1)]) (lE' := [(428, r9.2.2)]) rfl rfl rfl rfl ?_
      refine q_blk 7 [] (c' := q_kc (t, 0, m, z, N, ext, rx, L) I E 95 [some (.ref 450), some (.int x1), some (.ref r1)] [] [(426, r9.1), (429, r9.2.1), (450, (q_up (I 450) 3 (((I 450) 3) + (1 : Int32))))] [(428, r9.2.2)]) ok_X7_readValue rfl q_cn ?_
      cases hf
      exact q_krv ok_X7_readValue rfl rfl (Nat.le_of_ble_eq_true rfl) (Nat.le_of_ble_eq_true rfl) ⟨rfl, q_hpe (q_fin [426, 429, 450] rfl) (q_fin [428] rfl)⟩
    | 4, ht9 =>
      have hx9 : (q_sw j4) = 13 := hx9
      cases ht9
      have hf := q_in (fun hz9 => absurd (hx9.symm.trans hz9) (by decide)) hf
      have hf := q_in (fun hz9 => absurd (hx9.symm.trans hz9) (by decide)) hf
      have hf := q_in (fun hz9 => absurd (hx9.symm.trans hz9) (by decide)) hf
      have hf := q_in (fun hz9 => absurd (hx9.symm.trans hz9) (by decide)) hf
      have hf := q_ip hx9 hf
      refine q_blk 4 [] (c' := q_kc (t, 0, m, z, N, ext, rx, L) I E 28 [some (.ref 450), some (.int x1), some (.ref r1)] [.int (0 : Int32), .ref r1, .ref 426] [] []) ok_X7_readValue rfl q_cn ?_
      obtain ⟨r10, hr10, hf⟩ := q_bd hf
      refine q_kV (M2 := m_X6_addOrder) (As := [.ref r1, .int (0 : Int32)]) (b := 426) (v2 := none) ok_X7_readValue ok_X6_addOrder cv_X6_addOrder (ct_X6_addOrder_426 (d := 1) (Nat.le_refl _) hr10) rfl rfl (Or.inl rfl) rfl rfl rfl rfl (by omega) (Nat.le_of_ble_eq_true rfl) (Nat.le_of_ble_eq_true rfl) (Nat.le_of_ble_eq_true rfl) (fun x hx => absurd hx List.not_mem_nil) (q_nmL0 _) (q_nmS0 _) rfl (pos' := 29) (st' := []) (lI' := [(426, r10.1), (429, r10.2.1)]) (lE' := [(428, r10.2.2)]) rfl rfl rfl rfl ?_
      refine q_blk 7 [] (c' := q_kc (t, 0, m, z, N, ext, rx, L) I E 95 [some (.ref 450), some (.int x1), some (.ref r1)] [] [(426, r10.1), (429, r10.2.1), (450, (q_up (I 450) 3 (((I 450) 3) + (1 : Int32))))] [(428, r10.2.2)]) ok_X7_readValue rfl q_cn ?_
      cases hf
      exact q_krv ok_X7_readValue rfl rfl (Nat.le_of_ble_eq_true rfl) (Nat.le_of_ble_eq_true rfl) ⟨rfl, q_hpe (q_fin [426, 429, 450] rfl) (q_fin [428] rfl)⟩
    | 5, ht9 =>
      have hx9 : (q_sw j4) = 14 := hx9
      cases ht9
      have hf := q_in (fun hz9 => absurd (hx9.symm.trans hz9) (by decide)) hf
      have hf := q_in (fun hz9 => absurd (hx9.symm.trans hz9) (by decide)) hf
      have hf := q_in (fun hz9 => absurd (hx9.symm.trans hz9) (by decide)) hf
      have hf := q_in (fun hz9 => absurd (hx9.symm.trans hz9) (by decide)) hf
      have hf := q_in (fun hz9 => absurd (hx9.symm.trans hz9) (by decide)) hf
      have hf := q_ip hx9 hf
      refine q_blk 4 [] (c' := q_kc (t, 0, m, z, N, ext, rx, L) I E 28 [some (.ref 450), some (.int x1), some (.ref r1)] [.int (0 : Int32), .ref r1, .ref 426] [] []) ok_X7_readValue rfl q_cn ?_
      obtain ⟨r11, hr11, hf⟩ := q_bd hf
      refine q_kV (M2 := m_X6_addOrder) (As := [.ref r1, .int (0 : Int32)]) (b := 426) (v2 := none) ok_X7_readValue ok_X6_addOrder cv_X6_addOrder (ct_X6_addOrder_426 (d := 1) (Nat.le_refl _) hr11) rfl rfl (Or.inl rfl) rfl rfl rfl rfl (by omega) (Nat.le_of_ble_eq_true rfl) (Nat.le_of_ble_eq_true rfl) (Nat.le_of_ble_eq_true rfl) (fun x hx => absurd hx List.not_mem_nil) (q_nmL0 _) (q_nmS0 _) rfl (pos' := 29) (st' := []) (lI' := [(426, r11.1), (429, r11.2.1)]) (lE' := [(428, r11.2.2)]) rfl rfl rfl rfl ?_
      refine q_blk 7 [] (c' := q_kc (t, 0, m, z, N, ext, rx, L) I E 95 [some (.ref 450), some (.int x1), some (.ref r1)] [] [(426, r11.1), (429, r11.2.1), (450, (q_up (I 450) 3 (((I 450) 3) + (1 : Int32))))] [(428, r11.2.2)]) ok_X7_readValue rfl q_cn ?_
      cases hf
      exact q_krv ok_X7_readValue rfl rfl (Nat.le_of_ble_eq_true rfl) (Nat.le_of_ble_eq_true rfl) ⟨rfl, q_hpe (q_fin [426, 429, 450] rfl) (q_fin [428] rfl)⟩
    | 6, ht9 =>
      have hx9 : (q_sw j4) = 15 := hx9
      cases ht9
      have hf := q_in (fun hz9 => absurd (hx9.symm.trans hz9) (by decide)) hf
      have hf := q_in (fun hz9 => absurd (hx9.symm.trans hz9) (by decide)) hf
      have hf := q_in (fun hz9 => absurd (hx9.symm.trans hz9) (by decide)) hf
      have hf := q_in (fun hz9 => absurd (hx9.symm.trans hz9) (by decide)) hf
      have hf := q_in (fun hz9 => absurd (hx9.symm.trans hz9) (by decide)) hf
      have hf := q_in (fun hz9 => absurd (hx9.symm.trans hz9) (by decide)) hf
      have hf := q_ip hx9 hf
      refine q_blk 8 [] (c' := q_kc (t, 0, m, z, N, ext, rx, L) I E 44 [some (.ref 450), some (.int x1), some (.ref r1)] [.ref 18, .ref 450] [(450, (q_up (I 450) 3 (((I 450) 3) + (1 : Int32))))] []) ok_X7_readValue rfl q_cn ?_
      obtain ⟨r12, hr12, hf⟩ := q_bd hf
      refine q_kV (M2 := m_X7_take) (As := [.ref 18]) (b := 450) (v2 := some (.int (q_bz r12.1))) ok_X7_readValue ok_X7_take cv_X7_take (ct_X7_take_450 (d := 3) (Nat.le_refl _) hr12) rfl rfl (Or.inl rfl) rfl rfl rfl rfl (by omega) (Nat.le_of_ble_eq_true rfl) (Nat.le_of_ble_eq_true rfl) (Nat.le_of_ble_eq_true rfl) (fun x hx => absurd hx List.not_mem_nil) (q_nmL0 _) (q_nmS0 _) rfl (pos' := 45) (st' := [.int (q_bz r12.1)]) (lI' := [(450, r12.2)]) (lE' := []) rfl rfl rfl rfl ?_
      refine q_blk 5 [] (c' := q_kc (t, 0, m, z, N, ext, rx, L) I E 50 [some (.ref 450), some (.int x1), some (.ref r1)] [.ref 450, .ref r1, .ref 426] [(450, r12.2)] []) ok_X7_readValue rfl q_cn ?_
      obtain ⟨r13, hr13, hf⟩ := q_bd hf
      refine q_kV (M2 := m_X7_readHook) (As := []) (b := 450) (v2 := some (.int r13.1)) ok_X7_readValue ok_X7_readHook cv_X7_readHook (ct_X7_readHook_450 (d := 3) (Nat.le_refl _) hr13) rfl rfl (Or.inl rfl) rfl rfl rfl rfl (by omega) (Nat.le_of_ble_eq_true rfl) (Nat.le_of_ble_eq_true rfl) (Nat.le_of_ble_eq_true rfl) (fun x hx => absurd hx List.not_mem_nil) (q_nmL0 _) (q_nmS0 _) rfl (pos' := 51) (st' := [.int r13.1, .ref r1, .ref 426]) (lI' := [(450, r13.2)]) (lE' := []) rfl rfl rfl rfl ?_
      obtain ⟨r14, hr14, hf⟩ := q_bd hf
      refine q_kV (M2 := m_X6_addOrder) (As := [.ref r1, .int r13.1]) (b := 426) (v2 := none) ok_X7_readValue ok_X6_addOrder cv_X6_addOrder (ct_X6_addOrder_426 (d := 1) (Nat.le_refl _) hr14) rfl rfl (Or.inl rfl) rfl rfl rfl rfl (by omega) (Nat.le_of_ble_eq_true rfl) (Nat.le_of_ble_eq_true rfl) (Nat.le_of_ble_eq_true rfl) (fun x hx => absurd hx List.not_mem_nil) (q_nmL0 _) (q_nmS0 _) rfl (pos' := 52) (st' := []) (lI' := [(426, r14.1), (429, r14.2.1), (450, r13.2)]) (lE' := [(428, r14.2.2)]) rfl rfl rfl rfl ?_
      refine q_blk 1 [] (c' := q_kc (t, 0, m, z, N, ext, rx, L) I E 95 [some (.ref 450), some (.int x1), some (.ref r1)] [] [(426, r14.1), (429, r14.2.1), (450, r13.2)] [(428, r14.2.2)]) ok_X7_readValue rfl q_cn ?_
      cases hf
      exact q_krv ok_X7_readValue rfl rfl (Nat.le_of_ble_eq_true rfl) (Nat.le_of_ble_eq_true rfl) ⟨rfl, q_hpe (q_fin [426, 429, 450] rfl) (q_fin [428] rfl)⟩
    | 7, ht9 =>
      have hx9 : (q_sw j4) = 16 := hx9
      cases ht9
      have hf := q_in (fun hz9 => absurd (hx9.symm.trans hz9) (by decide)) hf
      have hf := q_in (fun hz9 => absurd (hx9.symm.trans hz9) (by decide)) hf
      have hf := q_in (fun hz9 => absurd (hx9.symm.trans hz9) (by decide)) hf
      have hf := q_in (fun hz9 => absurd (hx9.symm.trans hz9) (by decide)) hf
      have hf := q_in (fun hz9 => absurd (hx9.symm.trans hz9) (by decide)) hf
      have hf := q_in (fun hz9 => absurd (hx9.symm.trans hz9) (by decide)) hf
      have hf := q_in (fun hz9 => absurd (hx9.symm.trans hz9) (by decide)) hf
      have hf := q_ip hx9 hf
      refine q_blk 8 [] (c' := q_kc (t, 0, m, z, N, ext, rx, L) I E 44 [some (.ref 450), some (.int x1), some (.ref r1)] [.ref 18, .ref 450] [(450, (q_up (I 450) 3 (((I 450) 3) + (1 : Int32))))] []) ok_X7_readValue rfl q_cn ?_
      obtain ⟨r15, hr15, hf⟩ := q_bd hf
      refine q_kV (M2 := m_X7_take) (As := [.ref 18]) (b := 450) (v2 := some (.int (q_bz r15.1))) ok_X7_readValue ok_X7_take cv_X7_take (ct_X7_take_450 (d := 3) (Nat.le_refl _) hr15) rfl rfl (Or.inl rfl) rfl rfl rfl rfl (by omega) (Nat.le_of_ble_eq_true rfl) (Nat.le_of_ble_eq_true rfl) (Nat.le_of_ble_eq_true rfl) (fun x hx => absurd hx List.not_mem_nil) (q_nmL0 _) (q_nmS0 _) rfl (pos' := 45) (st' := [.int (q_bz r15.1)]) (lI' := [(450, r15.2)]) (lE' := []) rfl rfl rfl rfl ?_
      refine q_blk 5 [] (c' := q_kc (t, 0, m, z, N, ext, rx, L) I E 50 [some (.ref 450), some (.int x1), some (.ref r1)] [.ref 450, .ref r1, .ref 426] [(450, r15.2)] []) ok_X7_readValue rfl q_cn ?_
      obtain ⟨r16, hr16, hf⟩ := q_bd hf
      refine q_kV (M2 := m_X7_readHook) (As := []) (b := 450) (v2 := some (.int r16.1)) ok_X7_readValue ok_X7_readHook cv_X7_readHook (ct_X7_readHook_450 (d := 3) (Nat.le_refl _) hr16) rfl rfl (Or.inl rfl) rfl rfl rfl rfl (by omega) (Nat.le_of_ble_eq_true rfl) (Nat.le_of_ble_eq_true rfl) (Nat.le_of_ble_eq_true rfl) (fun x hx => absurd hx List.not_mem_nil) (q_nmL0 _) (q_nmS0 _) rfl (pos' := 51) (st' := [.int r16.1, .ref r1, .ref 426]) (lI' := [(450, r16.2)]) (lE' := []) rfl rfl rfl rfl ?_
      obtain ⟨r17, hr17, hf⟩ := q_bd hf
      refine q_kV (M2 := m_X6_addOrder) (As := [.ref r1, .int r16.1]) (b := 426) (v2 := none) ok_X7_readValue ok_X6_addOrder cv_X6_addOrder (ct_X6_addOrder_426 (d := 1) (Nat.le_refl _) hr17) rfl rfl (Or.inl rfl) rfl rfl rfl rfl (by omega) (Nat.le_of_ble_eq_true rfl) (Nat.le_of_ble_eq_true rfl) (Nat.le_of_ble_eq_true rfl) (fun x hx => absurd hx List.not_mem_nil) (q_nmL0 _) (q_nmS0 _) rfl (pos' := 52) (st' := []) (lI' := [(426, r17.1), (429, r17.2.1), (450, r16.2)]) (lE' := [(428, r17.2.2)]) rfl rfl rfl rfl ?_
      refine q_blk 1 [] (c' := q_kc (t, 0, m, z, N, ext, rx, L) I E 95 [some (.ref 450), some (.int x1), some (.ref r1)] [] [(426, r17.1), (429, r17.2.1), (450, r16.2)] [(428, r17.2.2)]) ok_X7_readValue rfl q_cn ?_
      cases hf
      exact q_krv ok_X7_readValue rfl rfl (Nat.le_of_ble_eq_true rfl) (Nat.le_of_ble_eq_true rfl) ⟨rfl, q_hpe (q_fin [426, 429, 450] rfl) (q_fin [428] rfl)⟩
    | 8, ht9 =>
      have hx9 : (q_sw j4) = 17 := hx9
      cases ht9
      have hf := q_in (fun hz9 => absurd (hx9.symm.trans hz9) (by decide)) hf
      have hf := q_in (fun hz9 => absurd (hx9.symm.trans hz9) (by decide)) hf
      have hf := q_in (fun hz9 => absurd (hx9.symm.trans hz9) (by decide)) hf
      have hf := q_in (fun hz9 => absurd (hx9.symm.trans hz9) (by decide)) hf
      have hf := q_in (fun hz9 => absurd (hx9.symm.trans hz9) (by decide)) hf
      have hf := q_in (fun hz9 => absurd (hx9.symm.trans hz9) (by decide)) hf
      have hf := q_in (fun hz9 => absurd (hx9.symm.trans hz9) (by decide)) hf
      have hf := q_in (fun hz9 => absurd (hx9.symm.trans hz9) (by decide)) hf
      have hf := q_ip hx9 hf
      refine q_blk 2 [] (c' := q_kc (t, 0, m, z, N, ext, rx, L) I E 55 [some (.ref 450), some (.int x1), some (.ref r1)] [.int x1, .ref 450] [] []) ok_X7_readValue rfl q_cn ?_
      obtain ⟨r18, hr18, hf⟩ := q_bd hf
      refine q_kV (M2 := m_X7_takeDeeper) (As := [.int x1]) (b := 450) (v2 := some (.int (q_bz r18.1))) ok_X7_readValue ok_X7_takeDeeper cv_X7_takeDeeper (ct_X7_takeDeeper_450 (d := 2) (Nat.le_refl _) hr18) rfl rfl (Or.inl rfl) rfl rfl rfl rfl (by omega) (Nat.le_of_ble_eq_true rfl) (Nat.le_of_ble_eq_true rfl) (Nat.le_of_ble_eq_true rfl) (fun x hx => absurd hx List.not_mem_nil) (q_nmL0 _) (q_nmS0 _) rfl (pos' := 56) (st' := [.int (q_bz r18.1)]) (lI' := [(450, r18.2)]) (lE' := []) rfl rfl rfl rfl ?_
      refine q_blf 0 [] (a := q_kc (t, 0, m, z, N, ext, rx, L) I E 95 [some (.ref 450), some (.int x1), some (.ref r1)] [] [(450, r18.2)] []) (b := q_kc (t, 0, m, z, N, ext, rx, L) I E 57 [some (.ref 450), some (.int x1), some (.ref r1)] [] [(450, r18.2)] []) (P := (q_bz r18.1) = 0) ok_X7_readValue rfl q_cn (fun h19 => ?_) (fun h19 => ?_)
      · have hf := q_ip h19 hf
        cases hf
        exact q_krv ok_X7_readValue rfl rfl (Nat.le_of_ble_eq_true rfl) (Nat.le_of_ble_eq_true rfl) ⟨rfl, q_hpe (q_fin [426, 429, 450] rfl) (q_fin [428] rfl)⟩
      · have hf := q_in h19 hf
        refine q_blk 4 [] (c' := q_kc (t, 0, m, z, N, ext, rx, L) I E 61 [some (.ref 450), some (.int x1), some (.ref r1)] [.int (x1 + (1 : Int32)), .ref 450] [(450, r18.2)] []) ok_X7_readValue rfl q_cn ?_
        obtain ⟨r20, hr20, hf⟩ := q_bd hf
        refine q_kV (M2 := m_X7_readValue) (As := [.int (x1 + (1 : Int32))]) (b := 450) (v2 := none) ok_X7_readValue ok_X7_readValue cv_X7_readValue (hq_readValue hr20) rfl rfl (Or.inl rfl) rfl rfl rfl rfl (by omega) (Nat.le_of_ble_eq_true rfl) (Nat.le_of_ble_eq_true rfl) (Nat.le_of_ble_eq_true rfl) (fun x hx => absurd hx List.not_mem_nil) (q_nmL0 _) (q_nmS0 _) rfl (pos' := 62) (st' := []) (lI' := [(426, r20.1), (429, r20.2.1), (450, r20.2.2.1)]) (lE' := [(428, r20.2.2.2)]) rfl rfl rfl rfl ?_
        refine q_blk 4 [] (c' := q_kc (t, 0, m, z, N, ext, rx, L) I E 66 [some (.ref 450), some (.int x1), some (.ref r1)] [.int (0 : Int32), .ref 4, .ref 426] [(426, r20.1), (429, r20.2.1), (450, r20.2.2.1)] [(428, r20.2.2.2)]) ok_X7_readValue rfl q_cn ?_
        obtain ⟨r21, hr21, hf⟩ := q_bd hf
        refine q_kV (M2 := m_X6_addOrder) (As := [.ref 4, .int (0 : Int32)]) (b := 426) (v2 := none) ok_X7_readValue ok_X6_addOrder cv_X6_addOrder (ct_X6_addOrder_426 (d := 1) (Nat.le_refl _) hr21) rfl rfl (Or.inl rfl) rfl rfl rfl rfl (by omega) (Nat.le_of_ble_eq_true rfl) (Nat.le_of_ble_eq_true rfl) (Nat.le_of_ble_eq_true rfl) (fun x hx => absurd hx List.not_mem_nil) (q_nmL0 _) (q_nmS0 _) rfl (pos' := 67) (st' := []) (lI' := [(426, r21.1), (429, r21.2.1), (450, r20.2.2.1)]) (lE' := [(428, r21.2.2)]) rfl rfl rfl rfl ?_
        refine q_blk 1 [] (c' := q_kc (t, 0, m, z, N, ext, rx, L) I E 95 [some (.ref 450), some (.int x1), some (.ref r1)] [] [(426, r21.1), (429, r21.2.1), (450, r20.2.2.1)] [(428, r21.2.2)]) ok_X7_readValue rfl q_cn ?_
        cases hf
        exact q_krv ok_X7_readValue rfl rfl (Nat.le_of_ble_eq_true rfl) (Nat.le_of_ble_eq_true rfl) ⟨rfl, q_hpe (q_fin [426, 429, 450] rfl) (q_fin [428] rfl)⟩
    | 9, ht9 =>
      have hx9 : (q_sw j4) = 18 := hx9
      cases ht9
      have hf := q_in (fun hz9 => absurd (hx9.symm.trans hz9) (by decide)) hf
      have hf := q_in (fun hz9 => absurd (hx9.symm.trans hz9) (by decide)) hf
      have hf := q_in (fun hz9 => absurd (hx9.symm.trans hz9) (by decide)) hf
      have hf := q_in (fun hz9 => absurd (hx9.symm.trans hz9) (by decide)) hf
      have hf := q_in (fun hz9 => absurd (hx9.symm.trans hz9) (by decide)) hf
      have hf := q_in (fun hz9 => absurd (hx9.symm.trans hz9) (by decide)) hf
      have hf := q_in (fun hz9 => absurd (hx9.symm.trans hz9) (by decide)) hf
      have hf := q_in (fun hz9 => absurd (hx9.symm.trans hz9) (by decide)) hf
      have hf := q_in (fun hz9 => absurd (hx9.symm.trans hz9) (by decide)) hf
      have hf := q_ip hx9 hf
      refine q_blk 2 [] (c' := q_kc (t, 0, m, z, N, ext, rx, L) I E 70 [some (.ref 450), some (.int x1), some (.ref r1)] [.int x1, .ref 450] [] []) ok_X7_readValue rfl q_cn ?_
      obtain ⟨r22, hr22, hf⟩ := q_bd hf
      refine q_kV (M2 := m_X7_takeDeeper) (As := [.int x1]) (b := 450) (v2 := some (.int (q_bz r22.1))) ok_X7_readValue ok_X7_takeDeeper cv_X7_takeDeeper (ct_X7_takeDeeper_450 (d := 2) (Nat.le_refl _) hr22) rfl rfl (Or.inl rfl) rfl rfl rfl rfl (by omega) (Nat.le_of_ble_eq_true rfl) (Nat.le_of_ble_eq_true rfl) (Nat.le_of_ble_eq_true rfl) (fun x hx => absurd hx List.not_mem_nil) (q_nmL0 _) (q_nmS0 _) rfl (pos' := 71) (st' := [.int (q_bz r22.1)]) (lI' := [(450, r22.2)]) (lE' := []) rfl rfl rfl rfl ?_
      refine q_blf 0 [] (a := q_kc (t, 0, m, z, N, ext, rx, L) I E 95 [some (.ref 450), some (.int x1), some (.ref r1)] [] [(450, r22.2)] []) (b := q_kc (t, 0, m, z, N, ext, rx, L) I E 72 [some (.ref 450), some (.int x1), some (.ref r1)] [] [(450, r22.2)] []) (P := (q_bz r22.1) = 0) ok_X7_readValue rfl q_cn (fun h23 => ?_) (fun h23 => ?_)
      · have hf := q_ip h23 hf
        cases hf
        exact q_krv ok_X7_readValue rfl rfl (Nat.le_of_ble_eq_true rfl) (Nat.le_of_ble_eq_true rfl) ⟨rfl, q_hpe (q_fin [426, 429, 450] rfl) (q_fin [428] rfl)⟩
      · have hf := q_in h23 hf
        refine q_blk 4 [] (c' := q_kc (t, 0, m, z, N, ext, rx, L) I E 76 [some (.ref 450), some (.int x1), some (.ref r1)] [.int (x1 + (1 : Int32)), .ref 450] [(450, r22.2)] []) ok_X7_readValue rfl q_cn ?_
        obtain ⟨r24, hr24, hf⟩ := q_bd hf
        refine q_kV (M2 := m_X7_readSum) (As := [.int (x1 + (1 : Int32))]) (b := 450) (v2 := none) ok_X7_readValue ok_X7_readSum cv_X7_readSum (hq_readSum hr24) rfl rfl (Or.inl rfl) rfl rfl rfl rfl (by omega) (Nat.le_of_ble_eq_true rfl) (Nat.le_of_ble_eq_true rfl) (Nat.le_of_ble_eq_true rfl) (fun x hx => absurd hx List.not_mem_nil) (q_nmL0 _) (q_nmS0 _) rfl (pos' := 77) (st' := []) (lI' := [(426, r24.1), (429, r24.2.1), (450, r24.2.2.1)]) (lE' := [(428, r24.2.2.2)]) rfl rfl rfl rfl ?_
        refine q_blk 2 [] (c' := q_kc (t, 0, m, z, N, ext, rx, L) I E 79 [some (.ref 450), some (.int x1), some (.ref r1)] [.ref 35, .ref 450] [(426, r24.1), (429, r24.2.1), (450, r24.2.2.1)] [(428, r24.2.2.2)]) ok_X7_readValue rfl q_cn ?_
        obtain ⟨r25, hr25, hf⟩ := q_bd hf
        refine q_kV (M2 := m_X7_take) (As := [.ref 35]) (b := 450) (v2 := some (.int (q_bz r25.1))) ok_X7_readValue ok_X7_take cv_X7_take (ct_X7_take_450 (d := 3) (Nat.le_refl _) hr25) rfl rfl (Or.inl rfl) rfl rfl rfl rfl (by omega) (Nat.le_of_ble_eq_true rfl) (Nat.le_of_ble_eq_true rfl) (Nat.le_of_ble_eq_true rfl) (fun x hx => absurd hx List.not_mem_nil) (q_nmL0 _) (q_nmS0 _) rfl (pos' := 80) (st' := [.int (q_bz r25.1)]) (lI' := [(426, r24.1), (429, r24.2.1), (450, r25.2)]) (lE' := [(428, r24.2.2.2)]) rfl rfl rfl rfl ?_
        refine q_blk 2 [] (c' := q_kc (t, 0, m, z, N, ext, rx, L) I E 95 [some (.ref 450), some (.int x1), some (.ref r1)] [] [(426, r24.1), (429, r24.2.1), (450, r25.2)] [(428, r24.2.2.2)]) ok_X7_readValue rfl q_cn ?_
        cases hf
        exact q_krv ok_X7_readValue rfl rfl (Nat.le_of_ble_eq_true rfl) (Nat.le_of_ble_eq_true rfl) ⟨rfl, q_hpe (q_fin [426, 429, 450] rfl) (q_fin [428] rfl)⟩
    | 10, ht9 =>
      have hx9 : (q_sw j4) = 19 := hx9
      cases ht9
      have hf := q_in (fun hz9 => absurd (hx9.symm.trans hz9) (by decide)) hf
      have hf := q_in (fun hz9 => absurd (hx9.symm.trans hz9) (by decide)) hf
      have hf := q_in (fun hz9 => absurd (hx9.symm.trans hz9) (by decide)) hf
      have hf := q_in (fun hz9 => absurd (hx9.symm.trans hz9) (by decide)) hf
      have hf := q_in (fun hz9 => absurd (hx9.symm.trans hz9) (by decide)) hf
      have hf := q_in (fun hz9 => absurd (hx9.symm.trans hz9) (by decide)) hf
      have hf := q_in (fun hz9 => absurd (hx9.symm.trans hz9) (by decide)) hf
      have hf := q_in (fun hz9 => absurd (hx9.symm.trans hz9) (by decide)) hf
      have hf := q_in (fun hz9 => absurd (hx9.symm.trans hz9) (by decide)) hf
      have hf := q_in (fun hz9 => absurd (hx9.symm.trans hz9) (by decide)) hf
      have hf := q_ip hx9 hf
      refine q_blk 9 [] (c' := q_kc (t, 0, m, z, N, ext, rx, L) I E 91 [some (.ref 450), some (.int x1), some (.ref r1)] [.int x1, .ref r1, .ref 450] [(450, (q_up (I 450) 3 (((I 450) 3) + (1 : Int32))))] []) ok_X7_readValue rfl q_cn ?_
      obtain ⟨r26, hr26, hf⟩ := q_bd hf
      refine q_kV (M2 := m_X7_readPair) (As := [.ref r1, .int x1]) (b := 450) (v2 := none) ok_X7_readValue ok_X7_readPair cv_X7_readPair (ct_X7_readPair_450 hq_readSum hr26) rfl rfl (Or.inl rfl) rfl rfl rfl rfl (by omega) (Nat.le_of_ble_eq_true rfl) (Nat.le_of_ble_eq_true rfl) (Nat.le_of_ble_eq_true rfl) (fun x hx => absurd hx List.not_mem_nil) (q_nmL0 _) (q_nmS0 _) rfl (pos' := 92) (st' := []) (lI' := [(426, r26.1), (429, r26.2.1), (450, r26.2.2.1)]) (lE' := [(428, r26.2.2.2)]) rfl rfl rfl rfl ?_
      refine q_blk 1 [] (c' := q_kc (t, 0, m, z, N, ext, rx, L) I E 95 [some (.ref 450), some (.int x1), some (.ref r1)] [] [(426, r26.1), (429, r26.2.1), (450, r26.2.2.1)] [(428, r26.2.2.2)]) ok_X7_readValue rfl q_cn ?_
      cases hf
      exact q_krv ok_X7_readValue rfl rfl (Nat.le_of_ble_eq_true rfl) (Nat.le_of_ble_eq_true rfl) ⟨rfl, q_hpe (q_fin [426, 429, 450] rfl) (q_fin [428] rfl)⟩
    | 11, ht9 =>
      have hx9 : (q_sw j4) = 20 := hx9
      cases ht9
      have hf := q_in (fun hz9 => absurd (hx9.symm.trans hz9) (by decide)) hf
      have hf := q_in (fun hz9 => absurd (hx9.symm.trans hz9) (by decide)) hf
      have hf := q_in (fun hz9 => absurd (hx9.symm.trans hz9) (by decide)) hf
      have hf := q_in (fun hz9 => absurd (hx9.symm.trans hz9) (by decide)) hf
      have hf := q_in (fun hz9 => absurd (hx9.symm.trans hz9) (by decide)) hf
      have hf := q_in (fun hz9 => absurd (hx9.symm.trans hz9) (by decide)) hf
      have hf := q_in (fun hz9 => absurd (hx9.symm.trans hz9) (by decide)) hf
      have hf := q_in (fun hz9 => absurd (hx9.symm.trans hz9) (by decide)) hf
      have hf := q_in (fun hz9 => absurd (hx9.symm.trans hz9) (by decide)) hf
      have hf := q_in (fun hz9 => absurd (hx9.symm.trans hz9) (by decide)) hf
      have hf := q_in (fun hz9 => absurd (hx9.symm.trans hz9) (by decide)) hf
      have hf := q_ip hx9 hf
      refine q_blk 9 [] (c' := q_kc (t, 0, m, z, N, ext, rx, L) I E 91 [some (.ref 450), some (.int x1), some (.ref r1)] [.int x1, .ref r1, .ref 450] [(450, (q_up (I 450) 3 (((I 450) 3) + (1 : Int32))))] []) ok_X7_readValue rfl q_cn ?_
      obtain ⟨r27, hr27, hf⟩ := q_bd hf
      refine q_kV (M2 := m_X7_readPair) (As := [.ref r1, .int x1]) (b := 450) (v2 := none) ok_X7_readValue ok_X7_readPair cv_X7_readPair (ct_X7_readPair_450 hq_readSum hr27) rfl rfl (Or.inl rfl) rfl rfl rfl rfl (by omega) (Nat.le_of_ble_eq_true rfl) (Nat.le_of_ble_eq_true rfl) (Nat.le_of_ble_eq_true rfl) (fun x hx => absurd hx List.not_mem_nil) (q_nmL0 _) (q_nmS0 _) rfl (pos' := 92) (st' := []) (lI' := [(426, r27.1), (429, r27.2.1), (450, r27.2.2.1)]) (lE' := [(428, r27.2.2.2)]) rfl rfl rfl rfl ?_
      refine q_blk 1 [] (c' := q_kc (t, 0, m, z, N, ext, rx, L) I E 95 [some (.ref 450), some (.int x1), some (.ref r1)] [] [(426, r27.1), (429, r27.2.1), (450, r27.2.2.1)] [(428, r27.2.2.2)]) ok_X7_readValue rfl q_cn ?_
      cases hf
      exact q_krv ok_X7_readValue rfl rfl (Nat.le_of_ble_eq_true rfl) (Nat.le_of_ble_eq_true rfl) ⟨rfl, q_hpe (q_fin [426, 429, 450] rfl) (q_fin [428] rfl)⟩
    | z9 + 12, ht9 => cases ht9
  · have hf := q_in (hx9 0 (by decide)) hf
    have hf := q_in (hx9 1 (by decide)) hf
    have hf := q_in (hx9 2 (by decide)) hf
    have hf := q_in (hx9 3 (by decide)) hf
    have hf := q_in (hx9 4 (by decide)) hf
    have hf := q_in (hx9 5 (by decide)) hf
    have hf := q_in (hx9 6 (by decide)) hf
    have hf := q_in (hx9 7 (by decide)) hf
    have hf := q_in (hx9 8 (by decide)) hf
    have hf := q_in (hx9 9 (by decide)) hf
    have hf := q_in (hx9 10 (by decide)) hf
    have hf := q_in (hx9 11 (by decide)) hf
    refine q_blk 1 [] (c' := q_kc (t, 0, m, z, N, ext, rx, L) I E 94 [some (.ref 450), some (.int x1), some (.ref r1)] [.ref 450] [] []) ok_X7_readValue rfl q_cn ?_
    obtain ⟨r28, hr28, hf⟩ := q_bd hf
    refine q_kV (M2 := m_X7_fail) (As := []) (b := 450) (v2 := none) ok_X7_readValue ok_X7_fail cv_X7_fail (ct_X7_fail_450 (d := 1) (Nat.le_refl _) hr28) rfl rfl (Or.inl rfl) rfl rfl rfl rfl (by omega) (Nat.le_of_ble_eq_true rfl) (Nat.le_of_ble_eq_true rfl) (Nat.le_of_ble_eq_true rfl) (fun x hx => absurd hx List.not_mem_nil) (q_nmL0 _) (q_nmS0 _) rfl (pos' := 95) (st' := []) (lI' := [(450, r28)]) (lE' := []) rfl rfl rfl rfl ?_
    cases hf
    exact q_krv ok_X7_readValue rfl rfl (Nat.le_of_ble_eq_true rfl) (Nat.le_of_ble_eq_true rfl) ⟨rfl, q_hpe (q_fin [426, 429, 450] rfl) (q_fin [428] rfl)⟩
set_option maxHeartbeats 4000000 in
theorem lp_X7_readProduct_L5_450 {g : q_G} {dR mc ms : Nat} {h0 : q_H} {Q : (Option Value ⊕ String) → q_H → Prop} {k n : Nat} {t : Nat} {m : Nat} {z : Nat} {N : Nat} {ext : Nat → q_Sh} {rx : Nat → Nat → Option Nat} {L : Nat → Nat → Int64} (hk : k ≤ mc) (hn : n ≤ ms)  {r_readValue : (Nat → Int32) → (Nat → Int32) → (Nat → Int32) → (Nat → Int32) → (Nat → Int32) → (Nat → Int32) → (Nat → Option Nat) → (Nat → Option Nat) → Int32 → Option ((Nat → Int32) × (Nat → Int32) × (Nat → Int32) × (Nat → Option Nat))} (hq_readValue : ∀ {I : Nat → Nat → Int32} {E : Nat → Nat → Option Nat} {dd : Int32} {r0 : (Nat → Int32) × (Nat → Int32) × (Nat → Int32) × (Nat → Option Nat)}, r_readValue ((I 426)) ((I 429)) ((I 450)) ((I 451)) ((I 452)) ((I 456)) ((E 428)) ((E 453)) dd = some r0 → q_Ct g m_X7_readValue dR 0 0 [] [.ref 450, .int dd] (q_hp (t, 0, m, z, N, ext, rx, L) I E) (fun o h' => o = .inl none ∧ h' = q_hp (t, 0, m, z, N, ext, rx, L) (q_ws I [(426, r0.1), (429, r0.2.1), (450, r0.2.2.1)]) (q_ws E [(428, r0.2.2.2)]))) {r_readSum : (Nat → Int32) → (Nat → Int32) → (Nat → Int32) → (Nat → Int32) → (Nat → Int32) → (Nat → Int32) → (Nat → Option Nat) → (Nat → Option Nat) → Int32 → Option ((Nat → Int32) × (Nat → Int32) × (Nat → Int32) × (Nat → Option Nat))} (hq_readSum : ∀ {I : Nat → Nat → Int32} {E : Nat → Nat → Option Nat} {dd : Int32} {r0 : (Nat → Int32) × (Nat → Int32) × (Nat → Int32) × (Nat → Option Nat)}, r_readSum ((I 426)) ((I 429)) ((I 450)) ((I 451)) ((I 452)) ((I 456)) ((E 428)) ((E 453)) dd = some r0 → q_Ct g m_X7_readSum dR 0 0 [] [.ref 450, .int dd] (q_hp (t, 0, m, z, N, ext, rx, L) I E) (fun o h' => o = .inl none ∧ h' = q_hp (t, 0, m, z, N, ext, rx, L) (q_ws I [(426, r0.1), (429, r0.2.1), (450, r0.2.2.1)]) (q_ws E [(428, r0.2.2.2)]))) {v1 : Int32} : ∀ (fu : Nat) {I : Nat → Nat → Int32} {E : Nat → Nat → Option Nat} {v2 : Int32} {r0 : (Nat → Int32) × (Nat → Int32) × (Nat → Int32) × (Nat → Option Nat)} (hf : f_X7_readProduct_L5 r_readValue r_readSum (I 451) (I 452) (I 456) (E 453) v1 fu (I 426) (I 429) (I 450) (E 428) v2 = some r0) (hK0 : q_J g m_X7_readProduct (dR + 6) mc ms h0 [] Q k n (q_kc (t, 0, m, z, N, ext, rx, L) I E 35 [none, none, none, none] [] [(426, r0.1), (429, r0.2.1), (450, r0.2.2.1)] [(428, r0.2.2.2)])), q_J g m_X7_readProduct (dR + 6) mc ms h0 [] Q k n (5, [some (.ref 450), some (.int v1), some (.int v2), none], [], q_hp (t, 0, m, z, N, ext, rx, L) I E) := by
  intro fu
  induction fu with
  | zero =>
    intro I E v2 r0 hf hK0
    rw [f_X7_readProduct_L5] at hf
    cases hf
  | succ fu ih =>
    intro I E v2 r0 hf hK0
    rw [f_X7_readProduct_L5] at hf
    change q_J g m_X7_readProduct (dR + 6) mc ms h0 [] Q k n (q_kc (t, 0, m, z, N, ext, rx, L) I E 5 [some (.ref 450), some (.int v1), some (.int v2), none] [] [] [])
    refine q_blf 2 [] (a := q_kc (t, 0, m, z, N, ext, rx, L) I E 35 [some (.ref 450), some (.int v1), some (.int v2), none] [] [] []) (b := q_kc (t, 0, m, z, N, ext, rx, L) I E 8 [some (.ref 450), some (.int v1), some (.int v2), none] [] [] []) (P := (400 : Int32) ≤ v2) ok_X7_readProduct rfl q_cn (fun h1 => ?_) (fun h1 => ?_)
    · have hf := q_ip h1 hf
      refine q_less (ls' := [none, none, none, none]) (q_sb1 (q_sb1 (q_sb1 (q_sb1 q_sb0)))) ?_
      cases hf
      exact q_Jpad [426, 429, 450] [428] rfl rfl hK0
    · have hf := q_in h1 hf
      refine q_blk 1 [] (c' := q_kc (t, 0, m, z, N, ext, rx, L) I E 9 [some (.ref 450), some (.int v1), some (.int v2), none] [.ref 450] [] []) ok_X7_readProduct rfl q_cn ?_
      obtain ⟨r2, hr2, hf⟩ := q_bd hf
      obtain ⟨u3, hu4, hf⟩ := q_bd hf
      refine q_kV (M2 := m_X7_sign) (As := []) (b := 450) (v2 := some (.ref r2)) ok_X7_readProduct ok_X7_sign cv_X7_sign (ct_X7_sign_450 (d := 2) (Nat.le_refl _) hr2) rfl rfl (Or.inl rfl) rfl rfl rfl rfl (by omega) hk hn (Nat.le_of_ble_eq_true rfl) (fun x hx => absurd hx List.not_mem_nil) (q_nmL0 _) (q_nmS0 _) rfl (pos' := 10) (st' := [.ref r2]) (lI' := []) (lE' := []) rfl rfl rfl rfl ?_
      refine q_blk 1 [] (c' := q_kc (t, 0, m, z, N, ext, rx, L) I E 11 [some (.ref 450), some (.int v1), some (.int v2), none] [.ref 42, .ref r2] [] []) ok_X7_readProduct rfl q_cn ?_
      refine q_o_acmp_eq ok_X7_readProduct rfl (q_e49_lt hu4) (Nat.lt_of_lt_of_le (Nat.lt_succ_self _) (Nat.le_of_ble_eq_true rfl)) (fun h5 => ?_) (fun h5 => ?_)
      · have hf := q_ip h5 hf
        refine q_blk 1 [] (c' := q_kc (t, 0, m, z, N, ext, rx, L) I E 17 [some (.ref 450), some (.int v1), some (.int v2), none] [.ref 450] [] []) ok_X7_readProduct rfl q_cn ?_
        obtain ⟨r6, hr6, hf⟩ := q_bd hf
        obtain ⟨u7, hu8, hf⟩ := q_bd hf
        refine q_kV (M2 := m_X7_sign) (As := []) (b := 450) (v2 := some (.ref r6)) ok_X7_readProduct ok_X7_sign cv_X7_sign (ct_X7_sign_450 (d := 2) (Nat.le_refl _) hr6) rfl rfl (Or.inl rfl) rfl rfl rfl rfl (by omega) hk hn (Nat.le_of_ble_eq_true rfl) (fun x hx => absurd hx List.not_mem_nil) (q_nmL0 _) (q_nmS0 _) rfl (pos' := 18) (st' := [.ref r6]) (lI' := []) (lE' := []) rfl rfl rfl rfl ?_
        refine q_blk 9 [] (c' := q_kc (t, 0, m, z, N, ext, rx, L) I E 27 [some (.ref 450), some (.int v1), some (.int v2), some (.ref r6)] [.int v1, .ref 450] [(450, (q_up (I 450) 3 (((I 450) 3) + (1 : Int32))))] []) ok_X7_readProduct rfl q_cn ?_
        obtain ⟨r9, hr9, hf⟩ := q_bd hf
        refine q_kV (M2 := m_X7_readValue) (As := [.int v1]) (b := 450) (v2 := none) ok_X7_readProduct ok_X7_readValue cv_X7_readValue (ct_X7_readValue_450 hq_readValue hq_readSum hr9) rfl rfl (Or.inl rfl) rfl rfl rfl rfl (by omega) hk hn (Nat.le_of_ble_eq_true rfl) (fun x hx => absurd hx List.not_mem_nil) (q_nmL0 _) (q_nmS0 _) rfl (pos' := 28) (st' := []) (lI' := [(426, r9.1), (429, r9.2.1), (450, r9.2.2.1)]) (lE' := [(428, r9.2.2.2)]) rfl rfl rfl rfl ?_
        refine q_blk 4 [] (c' := q_kc (t, 0, m, z, N, ext, rx, L) I E 32 [some (.ref 450), some (.int v1), some (.int v2), some (.ref r6)] [.int (0 : Int32), .ref r6, .ref 426] [(426, r9.1), (429, r9.2.1), (450, r9.2.2.1)] [(428, r9.2.2.2)]) ok_X7_readProduct rfl q_cn ?_
        obtain ⟨r10, hr10, hf⟩ := q_bd hf
        refine q_kV (M2 := m_X6_addOrder) (As := [.ref r6, .int (0 : Int32)]) (b := 426) (v2 := none) ok_X7_readProduct ok_X6_addOrder cv_X6_addOrder (ct_X6_addOrder_426 (d := 1) (Nat.le_refl _) hr10) rfl rfl (Or.inl rfl) rfl rfl rfl rfl (by omega) hk hn (Nat.le_of_ble_eq_true rfl) (fun x hx => absurd hx List.not_mem_nil) (q_nmL0 _) (q_nmS0 _) rfl (pos' := 33) (st' := []) (lI' := [(426, r10.1), (429, r10.2.1), (450, r9.2.2.1)]) (lE' := [(428, r10.2.2)]) rfl rfl rfl rfl ?_
        refine q_blk 2 [] (c' := q_kc (t, 0, m, z, N, ext, rx, L) I E 5 [some (.ref 450), some (.int v1), some (.int (v2 + 1)), some (.ref r6)] [] [(426, r10.1), (429, r10.2.1), (450, r9.2.2.1)] [(428, r10.2.2)]) ok_X7_readProduct rfl q_cn ?_
        refine q_less (ls' := [some (.ref 450), some (.int v1), some (.int (v2 + 1)), none]) (q_sb2 (q_sb2 (q_sb2 (q_sb1 q_sb0)))) ?_
        exact ih (I := q_ws I [(426, r10.1), (429, r10.2.1), (450, r9.2.2.1)]) (E := q_ws E [(428, r10.2.2)]) hf (q_Jmrg rfl rfl hK0)
      · have hf := q_in h5 hf
        refine q_blk 1 [] (c' := q_kc (t, 0, m, z, N, ext, rx, L) I E 13 [some (.ref 450), some (.int v1), some (.int v2), none] [.ref 450] [] []) ok_X7_readProduct rfl q_cn ?_
        obtain ⟨r11, hr11, hf⟩ := q_bd hf
        obtain ⟨u12, hu13, hf⟩ := q_bd hf
        refine q_kV (M2 := m_X7_sign) (As := []) (b := 450) (v2 := some (.ref r11)) ok_X7_readProduct ok_X7_sign cv_X7_sign (ct_X7_sign_450 (d := 2) (Nat.le_refl _) hr11) rfl rfl (Or.inl rfl) rfl rfl rfl rfl (by omega) hk hn (Nat.le_of_ble_eq_true rfl) (fun x hx => absurd hx List.not_mem_nil) (q_nmL0 _) (q_nmS0 _) rfl (pos' := 14) (st' := [.ref r11]) (lI' := []) (lE' := []) rfl rfl rfl rfl ?_
        refine q_blk 1 [] (c' := q_kc (t, 0, m, z, N, ext, rx, L) I E 15 [some (.ref 450), some (.int v1), some (.int v2), none] [.ref 43, .ref r11] [] []) ok_X7_readProduct rfl q_cn ?_
        refine q_o_acmp_ne ok_X7_readProduct rfl (q_e49_lt hu13) (Nat.lt_of_lt_of_le (Nat.lt_succ_self _) (Nat.le_of_ble_eq_true rfl)) (fun h14 => ?_) (fun h14 => ?_)
        · have hf := q_in h14 hf
          refine q_less (ls' := [none, none, none, none]) (q_sb1 (q_sb1 (q_sb1 (q_sb1 q_sb0)))) ?_
          cases hf
          exact q_Jpad [426, 429, 450] [428] rfl rfl hK0
        · have hf := q_ip h14 hf
          refine q_blk 1 [] (c' := q_kc (t, 0, m, z, N, ext, rx, L) I E 17 [some (.ref 450), some (.int v1), some (.int v2), none] [.ref 450] [] []) ok_X7_readProduct rfl q_cn ?_
          obtain ⟨r15, hr15, hf⟩ := q_bd hf
          obtain ⟨u16, hu17, hf⟩ := q_bd hf
          refine q_kV (M2 := m_X7_sign) (As := []) (b := 450) (v2 := some (.ref r15)) ok_X7_readProduct ok_X7_sign cv_X7_sign (ct_X7_sign_450 (d := 2) (Nat.le_refl _) hr15) rfl rfl (Or.inl rfl) rfl rfl rfl rfl (by omega) hk hn (Nat.le_of_ble_eq_true rfl) (fun x hx => absurd hx List.not_mem_nil) (q_nmL0 _) (q_nmS0 _) rfl (pos' := 18) (st' := [.ref r15]) (lI' := []) (lE' := []) rfl rfl rfl rfl ?_
          refine q_blk 9 [] (c' := q_kc (t, 0, m, z, N, ext, rx, L) I E 27 [some (.ref 450), some (.int v1), some (.int v2), some (.ref r15)] [.int v1, .ref 450] [(450, (q_up (I 450) 3 (((I 450) 3) + (1 : Int32))))] []) ok_X7_readProduct rfl q_cn ?_
          obtain ⟨r18, hr18, hf⟩ := q_bd hf
          refine q_kV (M2 := m_X7_readValue) (As := [.int v1]) (b := 450) (v2 := none) ok_X7_readProduct ok_X7_readValue cv_X7_readValue (ct_X7_readValue_450 hq_readValue hq_readSum hr18) rfl rfl (Or.inl rfl) rfl rfl rfl rfl (by omega) hk hn (Nat.le_of_ble_eq_true rfl) (fun x hx => absurd hx List.not_mem_nil) (q_nmL0 _) (q_nmS0 _) rfl (pos' := 28) (st' := []) (lI' := [(426, r18.1), (429, r18.2.1), (450, r18.2.2.1)]) (lE' := [(428, r18.2.2.2)]) rfl rfl rfl rfl ?_
          refine q_blk 4 [] (c' := q_kc (t, 0, m, z, N, ext, rx, L) I E 32 [some (.ref 450), some (.int v1), some (.int v2), some (.ref r15)] [.int (0 : Int32), .ref r15, .ref 426] [(426, r18.1), (429, r18.2.1), (450, r18.2.2.1)] [(428, r18.2.2.2)]) ok_X7_readProduct rfl q_cn ?_
          obtain ⟨r19, hr19, hf⟩ := q_bd hf
          refine q_kV (M2 := m_X6_addOrder) (As := [.ref r15, .int (0 : Int32)]) (b := 426) (v2 := none) ok_X7_readProduct ok_X6_addOrder cv_X6_addOrder (ct_X6_addOrder_426 (d := 1) (Nat.le_refl _) hr19) rfl rfl (Or.inl rfl) rfl rfl rfl rfl (by omega) hk hn (Nat.le_of_ble_eq_true rfl) (fun x hx => absurd hx List.not_mem_nil) (q_nmL0 _) (q_nmS0 _) rfl (pos' := 33) (st' := []) (lI' := [(426, r19.1), (429, r19.2.1), (450, r18.2.2.1)]) (lE' := [(428, r19.2.2)]) rfl rfl rfl rfl ?_
          refine q_blk 2 [] (c' := q_kc (t, 0, m, z, N, ext, rx, L) I E 5 [some (.ref 450), some (.int v1), some (.int (v2 + 1)), some (.ref r15)] [] [(426, r19.1), (429, r19.2.1), (450, r18.2.2.1)] [(428, r19.2.2)]) ok_X7_readProduct rfl q_cn ?_
          refine q_less (ls' := [some (.ref 450), some (.int v1), some (.int (v2 + 1)), none]) (q_sb2 (q_sb2 (q_sb2 (q_sb1 q_sb0)))) ?_
          exact ih (I := q_ws I [(426, r19.1), (429, r19.2.1), (450, r18.2.2.1)]) (E := q_ws E [(428, r19.2.2)]) hf (q_Jmrg rfl rfl hK0)
set_option maxHeartbeats 4000000 in
theorem ct_X7_readProduct_450 {g : q_G} {t : Nat} {m : Nat} {z : Nat} {N : Nat} {ext : Nat → q_Sh} {rx : Nat → Nat → Option Nat} {L : Nat → Nat → Int64} {dR : Nat}  {r_readValue : (Nat → Int32) → (Nat → Int32) → (Nat → Int32) → (Nat → Int32) → (Nat → Int32) → (Nat → Int32) → (Nat → Option Nat) → (Nat → Option Nat) → Int32 → Option ((Nat → Int32) × (Nat → Int32) × (Nat → Int32) × (Nat → Option Nat))} (hq_readValue : ∀ {I : Nat → Nat → Int32} {E : Nat → Nat → Option Nat} {dd : Int32} {r0 : (Nat → Int32) × (Nat → Int32) × (Nat → Int32) × (Nat → Option Nat)}, r_readValue ((I 426)) ((I 429)) ((I 450)) ((I 451)) ((I 452)) ((I 456)) ((E 428)) ((E 453)) dd = some r0 → q_Ct g m_X7_readValue dR 0 0 [] [.ref 450, .int dd] (q_hp (t, 0, m, z, N, ext, rx, L) I E) (fun o h' => o = .inl none ∧ h' = q_hp (t, 0, m, z, N, ext, rx, L) (q_ws I [(426, r0.1), (429, r0.2.1), (450, r0.2.2.1)]) (q_ws E [(428, r0.2.2.2)]))) {r_readSum : (Nat → Int32) → (Nat → Int32) → (Nat → Int32) → (Nat → Int32) → (Nat → Int32) → (Nat → Int32) → (Nat → Option Nat) → (Nat → Option Nat) → Int32 → Option ((Nat → Int32) × (Nat → Int32) × (Nat → Int32) × (Nat → Option Nat))} (hq_readSum : ∀ {I : Nat → Nat → Int32} {E : Nat → Nat → Option Nat} {dd : Int32} {r0 : (Nat → Int32) × (Nat → Int32) × (Nat → Int32) × (Nat → Option Nat)}, r_readSum ((I 426)) ((I 429)) ((I 450)) ((I 451)) ((I 452)) ((I 456)) ((E 428)) ((E 453)) dd = some r0 → q_Ct g m_X7_readSum dR 0 0 [] [.ref 450, .int dd] (q_hp (t, 0, m, z, N, ext, rx, L) I E) (fun o h' => o = .inl none ∧ h' = q_hp (t, 0, m, z, N, ext, rx, L) (q_ws I [(426, r0.1), (429, r0.2.1), (450, r0.2.2.1)]) (q_ws E [(428, r0.2.2.2)]))){I : Nat → Nat → Int32} {E : Nat → Nat → Option Nat} {x1 : Int32} {r0 : (Nat → Int32) × (Nat → Int32) × (Nat → Int32) × (Nat → Option Nat)} (hf : f_X7_readProduct r_readValue r_readSum (I 426) (I 429) (I 450) (I 451) (I 452) (I 456) (E 428) (E 453) x1 = some r0) : q_Ct g m_X7_readProduct (dR + 6) 0 0 [] [.ref 450, .int x1] (q_hp (t, 0, m, z, N, ext, rx, L) I E) (fun o h' => o = .inl none ∧ h' = q_hp (t, 0, m, z, N, ext, rx, L) (q_ws I [(426, r0.1), (429, r0.2.1), (450, r0.2.2.1)]) (q_ws E [(428, r0.2.2.2)])) := by
  rw [f_X7_readProduct] at hf
  refine q_Ct_of ok_X7_readProduct (Nat.le_of_ble_eq_true rfl) ?_ _ rfl rfl
  change q_J g m_X7_readProduct (dR + 6) 0 0 _ [] _ 0 0 (q_kc (t, 0, m, z, N, ext, rx, L) I E 0 [some (.ref 450), some (.int x1), none, none] [] [] [])
  refine q_blk 2 [] (c' := q_kc (t, 0, m, z, N, ext, rx, L) I E 2 [some (.ref 450), some (.int x1), none, none] [.int x1, .ref 450] [] []) ok_X7_readProduct rfl q_cn ?_
  obtain ⟨r20, hr20, hf⟩ := q_bd hf
  refine q_kV (M2 := m_X7_readValue) (As := [.int x1]) (b := 450) (v2 := none) ok_X7_readProduct ok_X7_readValue cv_X7_readValue (ct_X7_readValue_450 hq_readValue hq_readSum hr20) rfl rfl (Or.inl rfl) rfl rfl rfl rfl (by omega) (Nat.le_of_ble_eq_true rfl) (Nat.le_of_ble_eq_true rfl) (Nat.le_of_ble_eq_true rfl) (fun x hx => absurd hx List.not_mem_nil) (q_nmL0 _) (q_nmS0 _) rfl (pos' := 3) (st' := []) (lI' := [(426, r20.1), (429, r20.2.1), (450, r20.2.2.1)]) (lE' := [(428, r20.2.2.2)]) rfl rfl rfl rfl ?_
  refine q_blk 2 [] (c' := q_kc (t, 0, m, z, N, ext, rx, L) I E 5 [some (.ref 450), some (.int x1), some (.int (0 : Int32)), none] [] [(426, r20.1), (429, r20.2.1), (450, r20.2.2.1)] [(428, r20.2.2.2)]) ok_X7_readProduct rfl q_cn ?_
  obtain ⟨r21, hr21, hf⟩ := q_bd hf
  refine lp_X7_readProduct_L5_450 (I := q_ws I [(426, r20.1), (429, r20.2.1), (450, r20.2.2.1)]) (E := q_ws E [(428, r20.2.2.2)]) (Nat.le_of_ble_eq_true rfl) (Nat.le_of_ble_eq_true rfl) hq_readValue hq_readSum 4096 hr21 ?_
  refine q_Jmrg (lI' := [(426, r21.1), (429, r21.2.1), (450, r21.2.2.1)]) (lE' := [(428, r21.2.2.2)]) rfl rfl ?_
  cases hf
  exact q_krv ok_X7_readProduct rfl rfl (Nat.le_of_ble_eq_true rfl) (Nat.le_of_ble_eq_true rfl) ⟨rfl, q_hpe (q_fin [426, 429, 450] rfl) (q_fin [428] rfl)⟩
set_option maxHeartbeats 4000000 in
theorem lp_X7_readSum_L5_450 {g : q_G} {dR mc ms : Nat} {h0 : q_H} {Q : (Option Value ⊕ String) → q_H → Prop} {k n : Nat} {t : Nat} {m : Nat} {z : Nat} {N : Nat} {ext : Nat → q_Sh} {rx : Nat → Nat → Option Nat} {L : Nat → Nat → Int64} (hk : k ≤ mc) (hn : n ≤ ms)  {r_readValue : (Nat → Int32) → (Nat → Int32) → (Nat → Int32) → (Nat → Int32) → (Nat → Int32) → (Nat → Int32) → (Nat → Option Nat) → (Nat → Option Nat) → Int32 → Option ((Nat → Int32) × (Nat → Int32) × (Nat → Int32) × (Nat → Option Nat))} (hq_readValue : ∀ {I : Nat → Nat → Int32} {E : Nat → Nat → Option Nat} {dd : Int32} {r0 : (Nat → Int32) × (Nat → Int32) × (Nat → Int32) × (Nat → Option Nat)}, r_readValue ((I 426)) ((I 429)) ((I 450)) ((I 451)) ((I 452)) ((I 456)) ((E 428)) ((E 453)) dd = some r0 → q_Ct g m_X7_readValue dR 0 0 [] [.ref 450, .int dd] (q_hp (t, 0, m, z, N, ext, rx, L) I E) (fun o h' => o = .inl none ∧ h' = q_hp (t, 0, m, z, N, ext, rx, L) (q_ws I [(426, r0.1), (429, r0.2.1), (450, r0.2.2.1)]) (q_ws E [(428, r0.2.2.2)]))) {r_readSum : (Nat → Int32) → (Nat → Int32) → (Nat → Int32) → (Nat → Int32) → (Nat → Int32) → (Nat → Int32) → (Nat → Option Nat) → (Nat → Option Nat) → Int32 → Option ((Nat → Int32) × (Nat → Int32) × (Nat → Int32) × (Nat → Option Nat))} (hq_readSum : ∀ {I : Nat → Nat → Int32} {E : Nat → Nat → Option Nat} {dd : Int32} {r0 : (Nat → Int32) × (Nat → Int32) × (Nat → Int32) × (Nat → Option Nat)}, r_readSum ((I 426)) ((I 429)) ((I 450)) ((I 451)) ((I 452)) ((I 456)) ((E 428)) ((E 453)) dd = some r0 → q_Ct g m_X7_readSum dR 0 0 [] [.ref 450, .int dd] (q_hp (t, 0, m, z, N, ext, rx, L) I E) (fun o h' => o = .inl none ∧ h' = q_hp (t, 0, m, z, N, ext, rx, L) (q_ws I [(426, r0.1), (429, r0.2.1), (450, r0.2.2.1)]) (q_ws E [(428, r0.2.2.2)]))) {v1 : Int32} : ∀ (fu : Nat) {I : Nat → Nat → Int32} {E : Nat → Nat → Option Nat} {v2 : Int32} {r0 : (Nat → Int32) × (Nat → Int32) × (Nat → Int32) × (Nat → Option Nat)} (hf : f_X7_readSum_L5 r_readValue r_readSum (I 451) (I 452) (I 456) (E 453) v1 fu (I 426) (I 429) (I 450) (E 428) v2 = some r0) (hK0 : q_J g m_X7_readSum (dR + 7) mc ms h0 [] Q k n (q_kc (t, 0, m, z, N, ext, rx, L) I E 35 [none, none, none, none] [] [(426, r0.1), (429, r0.2.1), (450, r0.2.2.1)] [(428, r0.2.2.2)])), q_J g m_X7_readSum (dR + 7) mc ms h0 [] Q k n (5, [some (.ref 450), some (.int v1), some (.int v2), none], [], q_hp (t, 0, m, z, N, ext, rx, L) I E) := by
  intro fu
  induction fu with
  | zero =>
    intro I E v2 r0 hf hK0
    rw [f_X7_readSum_L5] at hf
    cases hf
  | succ fu ih =>
    intro I E v2 r0 hf hK0
    rw [f_X7_readSum_L5] at hf
    change q_J g m_X7_readSum (dR + 7) mc ms h0 [] Q k n (q_kc (t, 0, m, z, N, ext, rx, L) I E 5 [some (.ref 450), some (.int v1), some (.int v2), none] [] [] [])
    refine q_blf 2 [] (a := q_kc (t, 0, m, z, N, ext, rx, L) I E 35 [some (.ref 450), some (.int v1), some (.int v2), none] [] [] []) (b := q_kc (t, 0, m, z, N, ext, rx, L) I E 8 [some (.ref 450), some (.int v1), some (.int v2), none] [] [] []) (P := (400 : Int32) ≤ v2) ok_X7_readSum rfl q_cn (fun h1 => ?_) (fun h1 => ?_)
    · have hf := q_ip h1 hf
      refine q_less (ls' := [none, none, none, none]) (q_sb1 (q_sb1 (q_sb1 (q_sb1 q_sb0)))) ?_
      cases hf
      exact q_Jpad [426, 429, 450] [428] rfl rfl hK0
    · have hf := q_in h1 hf
      refine q_blk 1 [] (c' := q_kc (t, 0, m, z, N, ext, rx, L) I E 9 [some (.ref 450), some (.int v1), some (.int v2), none] [.ref 450] [] []) ok_X7_readSum rfl q_cn ?_
      obtain ⟨r2, hr2, hf⟩ := q_bd hf
      obtain ⟨u3, hu4, hf⟩ := q_bd hf
      refine q_kV (M2 := m_X7_sign) (As := []) (b := 450) (v2 := some (.ref r2)) ok_X7_readSum ok_X7_sign cv_X7_sign (ct_X7_sign_450 (d := 2) (Nat.le_refl _) hr2) rfl rfl (Or.inl rfl) rfl rfl rfl rfl (by omega) hk hn (Nat.le_of_ble_eq_true rfl) (fun x hx => absurd hx List.not_mem_nil) (q_nmL0 _) (q_nmS0 _) rfl (pos' := 10) (st' := [.ref r2]) (lI' := []) (lE' := []) rfl rfl rfl rfl ?_
      refine q_blk 1 [] (c' := q_kc (t, 0, m, z, N, ext, rx, L) I E 11 [some (.ref 450), some (.int v1), some (.int v2), none] [.ref 40, .ref r2] [] []) ok_X7_readSum rfl q_cn ?_
      refine q_o_acmp_eq ok_X7_readSum rfl (q_e49_lt hu4) (Nat.lt_of_lt_of_le (Nat.lt_succ_self _) (Nat.le_of_ble_eq_true rfl)) (fun h5 => ?_) (fun h5 => ?_)
      · have hf := q_ip h5 hf
        refine q_blk 1 [] (c' := q_kc (t, 0, m, z, N, ext, rx, L) I E 17 [some (.ref 450), some (.int v1), some (.int v2), none] [.ref 450] [] []) ok_X7_readSum rfl q_cn ?_
        obtain ⟨r6, hr6, hf⟩ := q_bd hf
        obtain ⟨u7, hu8, hf⟩ := q_bd hf
        refine q_kV (M2 := m_X7_sign) (As := []) (b := 450) (v2 := some (.ref r6)) ok_X7_readSum ok_X7_sign cv_X7_sign (ct_X7_sign_450 (d := 2) (Nat.le_refl _) hr6) rfl rfl (Or.inl rfl) rfl rfl rfl rfl (by omega) hk hn (Nat.le_of_ble_eq_true rfl) (fun x hx => absurd hx List.not_mem_nil) (q_nmL0 _) (q_nmS0 _) rfl (pos' := 18) (st' := [.ref r6]) (lI' := []) (lE' := []) rfl rfl rfl rfl ?_
        refine q_blk 9 [] (c' := q_kc (t, 0, m, z, N, ext, rx, L) I E 27 [some (.ref 450), some (.int v1), some (.int v2), some (.ref r6)] [.int v1, .ref 450] [(450, (q_up (I 450) 3 (((I 450) 3) + (1 : Int32))))] []) ok_X7_readSum rfl q_cn ?_
        obtain ⟨r9, hr9, hf⟩ := q_bd hf
        refine q_kV (M2 := m_X7_readProduct) (As := [.int v1]) (b := 450) (v2 := none) ok_X7_readSum ok_X7_readProduct cv_X7_readProduct (ct_X7_readProduct_450 hq_readValue hq_readSum hr9) rfl rfl (Or.inl rfl) rfl rfl rfl rfl (by omega) hk hn (Nat.le_of_ble_eq_true rfl) (fun x hx => absurd hx List.not_mem_nil) (q_nmL0 _) (q_nmS0 _) rfl (pos' := 28) (st' := []) (lI' := [(426, r9.1), (429, r9.2.1), (450, r9.2.2.1)]) (lE' := [(428, r9.2.2.2)]) rfl rfl rfl rfl ?_
        refine q_blk 4 [] (c' := q_kc (t, 0, m, z, N, ext, rx, L) I E 32 [some (.ref 450), some (.int v1), some (.int v2), some (.ref r6)] [.int (0 : Int32), .ref r6, .ref 426] [(426, r9.1), (429, r9.2.1), (450, r9.2.2.1)] [(428, r9.2.2.2)]) ok_X7_readSum rfl q_cn ?_
        obtain ⟨r10, hr10, hf⟩ := q_bd hf
        refine q_kV (M2 := m_X6_addOrder) (As := [.ref r6, .int (0 : Int32)]) (b := 426) (v2 := none) ok_X7_readSum ok_X6_addOrder cv_X6_addOrder (ct_X6_addOrder_426 (d := 1) (Nat.le_refl _) hr10) rfl rfl (Or.inl rfl) rfl rfl rfl rfl (by omega) hk hn (Nat.le_of_ble_eq_true rfl) (fun x hx => absurd hx List.not_mem_nil) (q_nmL0 _) (q_nmS0 _) rfl (pos' := 33) (st' := []) (lI' := [(426, r10.1), (429, r10.2.1), (450, r9.2.2.1)]) (lE' := [(428, r10.2.2)]) rfl rfl rfl rfl ?_
        refine q_blk 2 [] (c' := q_kc (t, 0, m, z, N, ext, rx, L) I E 5 [some (.ref 450), some (.int v1), some (.int (v2 + 1)), some (.ref r6)] [] [(426, r10.1), (429, r10.2.1), (450, r9.2.2.1)] [(428, r10.2.2)]) ok_X7_readSum rfl q_cn ?_
        refine q_less (ls' := [some (.ref 450), some (.int v1), some (.int (v2 + 1)), none]) (q_sb2 (q_sb2 (q_sb2 (q_sb1 q_sb0)))) ?_
        exact ih (I := q_ws I [(426, r10.1), (429, r10.2.1), (450, r9.2.2.1)]) (E := q_ws E [(428, r10.2.2)]) hf (q_Jmrg rfl rfl hK0)
      · have hf := q_in h5 hf
        refine q_blk 1 [] (c' := q_kc (t, 0, m, z, N, ext, rx, L) I E 13 [some (.ref 450), some (.int v1), some (.int v2), none] [.ref 450] [] []) ok_X7_readSum rfl q_cn ?_
        obtain ⟨r11, hr11, hf⟩ := q_bd hf
        obtain ⟨u12, hu13, hf⟩ := q_bd hf
        refine q_kV (M2 := m_X7_sign) (As := []) (b := 450) (v2 := some (.ref r11)) ok_X7_readSum ok_X7_sign cv_X7_sign (ct_X7_sign_450 (d := 2) (Nat.le_refl _) hr11) rfl rfl (Or.inl rfl) rfl rfl rfl rfl (by omega) hk hn (Nat.le_of_ble_eq_true rfl) (fun x hx => absurd hx List.not_mem_nil) (q_nmL0 _) (q_nmS0 _) rfl (pos' := 14) (st' := [.ref r11]) (lI' := []) (lE' := []) rfl rfl rfl rfl ?_
        refine q_blk 1 [] (c' := q_kc (t, 0, m, z, N, ext, rx, L) I E 15 [some (.ref 450), some (.int v1), some (.int v2), none] [.ref 41, .ref r11] [] []) ok_X7_readSum rfl q_cn ?_
        refine q_o_acmp_ne ok_X7_readSum rfl (q_e49_lt hu13) (Nat.lt_of_lt_of_le (Nat.lt_succ_self _) (Nat.le_of_ble_eq_true rfl)) (fun h14 => ?_) (fun h14 => ?_)
        · have hf := q_in h14 hf
          refine q_less (ls' := [none, none, none, none]) (q_sb1 (q_sb1 (q_sb1 (q_sb1 q_sb0)))) ?_
          cases hf
          exact q_Jpad [426, 429, 450] [428] rfl rfl hK0
        · have hf := q_ip h14 hf
          refine q_blk 1 [] (c' := q_kc (t, 0, m, z, N, ext, rx, L) I E 17 [some (.ref 450), some (.int v1), some (.int v2), none] [.ref 450] [] []) ok_X7_readSum rfl q_cn ?_
          obtain ⟨r15, hr15, hf⟩ := q_bd hf
          obtain ⟨u16, hu17, hf⟩ := q_bd hf
          refine q_kV (M2 := m_X7_sign) (As := []) (b := 450) (v2 := some (.ref r15)) ok_X7_readSum ok_X7_sign cv_X7_sign (ct_X7_sign_450 (d := 2) (Nat.le_refl _) hr15) rfl rfl (Or.inl rfl) rfl rfl rfl rfl (by omega) hk hn (Nat.le_of_ble_eq_true rfl) (fun x hx => absurd hx List.not_mem_nil) (q_nmL0 _) (q_nmS0 _) rfl (pos' := 18) (st' := [.ref r15]) (lI' := []) (lE' := []) rfl rfl rfl rfl ?_
          refine q_blk 9 [] (c' := q_kc (t, 0, m, z, N, ext, rx, L) I E 27 [some (.ref 450), some (.int v1), some (.int v2), some (.ref r15)] [.int v1, .ref 450] [(450, (q_up (I 450) 3 (((I 450) 3) + (1 : Int32))))] []) ok_X7_readSum rfl q_cn ?_
          obtain ⟨r18, hr18, hf⟩ := q_bd hf
          refine q_kV (M2 := m_X7_readProduct) (As := [.int v1]) (b := 450) (v2 := none) ok_X7_readSum ok_X7_readProduct cv_X7_readProduct (ct_X7_readProduct_450 hq_readValue hq_readSum hr18) rfl rfl (Or.inl rfl) rfl rfl rfl rfl (by omega) hk hn (Nat.le_of_ble_eq_true rfl) (fun x hx => absurd hx List.not_mem_nil) (q_nmL0 _) (q_nmS0 _) rfl (pos' := 28) (st' := []) (lI' := [(426, r18.1), (429, r18.2.1), (450, r18.2.2.1)]) (lE' := [(428, r18.2.2.2)]) rfl rfl rfl rfl ?_
          refine q_blk 4 [] (c' := q_kc (t, 0, m, z, N, ext, rx, L) I E 32 [some (.ref 450), some (.int v1), some (.int v2), some (.ref r15)] [.int (0 : Int32), .ref r15, .ref 426] [(426, r18.1), (429, r18.2.1), (450, r18.2.2.1)] [(428, r18.2.2.2)]) ok_X7_readSum rfl q_cn ?_
          obtain ⟨r19, hr19, hf⟩ := q_bd hf
          refine q_kV (M2 := m_X6_addOrder) (As := [.ref r15, .int (0 : Int32)]) (b := 426) (v2 := none) ok_X7_readSum ok_X6_addOrder cv_X6_addOrder (ct_X6_addOrder_426 (d := 1) (Nat.le_refl _) hr19) rfl rfl (Or.inl rfl) rfl rfl rfl rfl (by omega) hk hn (Nat.le_of_ble_eq_true rfl) (fun x hx => absurd hx List.not_mem_nil) (q_nmL0 _) (q_nmS0 _) rfl (pos' := 33) (st' := []) (lI' := [(426, r19.1), (429, r19.2.1), (450, r18.2.2.1)]) (lE' := [(428, r19.2.2)]) rfl rfl rfl rfl ?_
          refine q_blk 2 [] (c' := q_kc (t, 0, m, z, N, ext, rx, L) I E 5 [some (.ref 450), some (.int v1), some (.int (v2 + 1)), some (.ref r15)] [] [(426, r19.1), (429, r19.2.1), (450, r18.2.2.1)] [(428, r19.2.2)]) ok_X7_readSum rfl q_cn ?_
          refine q_less (ls' := [some (.ref 450), some (.int v1), some (.int (v2 + 1)), none]) (q_sb2 (q_sb2 (q_sb2 (q_sb1 q_sb0)))) ?_
          exact ih (I := q_ws I [(426, r19.1), (429, r19.2.1), (450, r18.2.2.1)]) (E := q_ws E [(428, r19.2.2)]) hf (q_Jmrg rfl rfl hK0)
set_option maxHeartbeats 4000000 in
theorem ct_X7_readSum_450 {g : q_G} {t : Nat} {m : Nat} {z : Nat} {N : Nat} {ext : Nat → q_Sh} {rx : Nat → Nat → Option Nat} {L : Nat → Nat → Int64} {dR : Nat}  {r_readValue : (Nat → Int32) → (Nat → Int32) → (Nat → Int32) → (Nat → Int32) → (Nat → Int32) → (Nat → Int32) → (Nat → Option Nat) → (Nat → Option Nat) → Int32 → Option ((Nat → Int32) × (Nat → Int32) × (Nat → Int32) × (Nat → Option Nat))} (hq_readValue : ∀ {I : Nat → Nat → Int32} {E : Nat → Nat → Option Nat} {dd : Int32} {r0 : (Nat → Int32) × (Nat → Int32) × (Nat → Int32) × (Nat → Option Nat)}, r_readValue ((I 426)) ((I 429)) ((I 450)) ((I 451)) ((I 452)) ((I 456)) ((E 428)) ((E 453)) dd = some r0 → q_Ct g m_X7_readValue dR 0 0 [] [.ref 450, .int dd] (q_hp (t, 0, m, z, N, ext, rx, L) I E) (fun o h' => o = .inl none ∧ h' = q_hp (t, 0, m, z, N, ext, rx, L) (q_ws I [(426, r0.1), (429, r0.2.1), (450, r0.2.2.1)]) (q_ws E [(428, r0.2.2.2)]))) {r_readSum : (Nat → Int32) → (Nat → Int32) → (Nat → Int32) → (Nat → Int32) → (Nat → Int32) → (Nat → Int32) → (Nat → Option Nat) → (Nat → Option Nat) → Int32 → Option ((Nat → Int32) × (Nat → Int32) × (Nat → Int32) × (Nat → Option Nat))} (hq_readSum : ∀ {I : Nat → Nat → Int32} {E : Nat → Nat → Option Nat} {dd : Int32} {r0 : (Nat → Int32) × (Nat → Int32) × (Nat → Int32) × (Nat → Option Nat)}, r_readSum ((I 426)) ((I 429)) ((I 450)) ((I 451)) ((I 452)) ((I 456)) ((E 428)) ((E 453)) dd = some r0 → q_Ct g m_X7_readSum dR 0 0 [] [.ref 450, .int dd] (q_hp (t, 0, m, z, N, ext, rx, L) I E) (fun o h' => o = .inl none ∧ h' = q_hp (t, 0, m, z, N, ext, rx, L) (q_ws I [(426, r0.1), (429, r0.2.1), (450, r0.2.2.1)]) (q_ws E [(428, r0.2.2.2)]))){I : Nat → Nat → Int32} {E : Nat → Nat → Option Nat} {x1 : Int32} {r0 : (Nat → Int32) × (Nat → Int32) × (Nat → Int32) × (Nat → Option Nat)} (hf : f_X7_readSum r_readValue r_readSum (I 426) (I 429) (I 450) (I 451) (I 452) (I 456) (E 428) (E 453) x1 = some r0) : q_Ct g m_X7_readSum (dR + 7) 0 0 [] [.ref 450, .int x1] (q_hp (t, 0, m, z, N, ext, rx, L) I E) (fun o h' => o = .inl none ∧ h' = q_hp (t, 0, m, z, N, ext, rx, L) (q_ws I [(426, r0.1), (429, r0.2.1), (450, r0.2.2.1)]) (q_ws E [(428, r0.2.2.2)])) := by
  rw [f_X7_readSum] at hf
  refine q_Ct_of ok_X7_readSum (Nat.le_of_ble_eq_true rfl) ?_ _ rfl rfl
  change q_J g m_X7_readSum (dR + 7) 0 0 _ [] _ 0 0 (q_kc (t, 0, m, z, N, ext, rx, L) I E 0 [some (.ref 450), some (.int x1), none, none] [] [] [])
  refine q_blk 2 [] (c' := q_kc (t, 0, m, z, N, ext, rx, L) I E 2 [some (.ref 450), some (.int x1), none, none] [.int x1, .ref 450] [] []) ok_X7_readSum rfl q_cn ?_
  obtain ⟨r20, hr20, hf⟩ := q_bd hf
  refine q_kV (M2 := m_X7_readProduct) (As := [.int x1]) (b := 450) (v2 := none) ok_X7_readSum ok_X7_readProduct cv_X7_readProduct (ct_X7_readProduct_450 hq_readValue hq_readSum hr20) rfl rfl (Or.inl rfl) rfl rfl rfl rfl (by omega) (Nat.le_of_ble_eq_true rfl) (Nat.le_of_ble_eq_true rfl) (Nat.le_of_ble_eq_true rfl) (fun x hx => absurd hx List.not_mem_nil) (q_nmL0 _) (q_nmS0 _) rfl (pos' := 3) (st' := []) (lI' := [(426, r20.1), (429, r20.2.1), (450, r20.2.2.1)]) (lE' := [(428, r20.2.2.2)]) rfl rfl rfl rfl ?_
  refine q_blk 2 [] (c' := q_kc (t, 0, m, z, N, ext, rx, L) I E 5 [some (.ref 450), some (.int x1), some (.int (0 : Int32)), none] [] [(426, r20.1), (429, r20.2.1), (450, r20.2.2.1)] [(428, r20.2.2.2)]) ok_X7_readSum rfl q_cn ?_
  obtain ⟨r21, hr21, hf⟩ := q_bd hf
  refine lp_X7_readSum_L5_450 (I := q_ws I [(426, r20.1), (429, r20.2.1), (450, r20.2.2.1)]) (E := q_ws E [(428, r20.2.2.2)]) (Nat.le_of_ble_eq_true rfl) (Nat.le_of_ble_eq_true rfl) hq_readValue hq_readSum 4096 hr21 ?_
  refine q_Jmrg (lI' := [(426, r21.1), (429, r21.2.1), (450, r21.2.2.1)]) (lE' := [(428, r21.2.2.2)]) rfl rfl ?_
  cases hf
  exact q_krv ok_X7_readSum rfl rfl (Nat.le_of_ble_eq_true rfl) (Nat.le_of_ble_eq_true rfl) ⟨rfl, q_hpe (q_fin [426, 429, 450] rfl) (q_fin [428] rfl)⟩
set_option maxHeartbeats 4000000 in
theorem ct_X7_readNumber_450 {g : q_G} {t : Nat} {r : Nat} {m : Nat} {z : Nat} {N : Nat} {ext : Nat → q_Sh} {rx : Nat → Nat → Option Nat} {L : Nat → Nat → Int64} {d : Nat} (hd : 4 ≤ d)  {I : Nat → Nat → Int32} {E : Nat → Nat → Option Nat} {x1 : Int32} {x2 : Int32} {r0 : Int32 × (Nat → Int32)} (hf : f_X7_readNumber (I 450) (I 452) (I 456) (E 453) x1 x2 = some r0) : q_Ct g m_X7_readNumber d 0 0 [] [.ref 450, .int x1, .int x2] (q_hp (t, r, m, z, N, ext, rx, L) I E) (fun o h' => o = .inl (some (.int r0.1)) ∧ h' = q_hp (t, r, m, z, N, ext, rx, L) (q_ws I [(450, r0.2)]) (q_ws E [])) := by
  rw [f_X7_readNumber] at hf
  refine q_Ct_of ok_X7_readNumber (Nat.le_of_ble_eq_true rfl) ?_ _ rfl rfl
  change q_J g m_X7_readNumber d 0 0 _ [] _ 0 0 (q_kc (t, r, m, z, N, ext, rx, L) I E 0 [some (.ref 450), some (.int x1), some (.int x2), none] [] [] [])
  refine q_blk 2 [] (c' := q_kc (t, r, m, z, N, ext, rx, L) I E 2 [some (.ref 450), some (.int x1), some (.int x2), none] [.ref 2, .ref 450] [] []) ok_X7_readNumber rfl q_cn ?_
  obtain ⟨r1, hr1, hf⟩ := q_bd hf
  refine q_kV (M2 := m_X7_take) (As := [.ref 2]) (b := 450) (v2 := some (.int (q_bz r1.1))) ok_X7_readNumber ok_X7_take cv_X7_take (ct_X7_take_450 (d := 3) (Nat.le_refl _) hr1) rfl rfl (Or.inl rfl) rfl rfl rfl rfl (Nat.le_trans (Nat.le_of_ble_eq_true rfl) hd) (Nat.le_of_ble_eq_true rfl) (Nat.le_of_ble_eq_true rfl) (Nat.le_of_ble_eq_true rfl) (fun x hx => absurd hx List.not_mem_nil) (q_nmL0 _) (q_nmS0 _) rfl (pos' := 3) (st' := [.int (q_bz r1.1)]) (lI' := [(450, r1.2)]) (lE' := []) rfl rfl rfl rfl ?_
  refine q_blf 0 [] (a := q_kc (t, r, m, z, N, ext, rx, L) I E 6 [some (.ref 450), some (.int x1), some (.int x2), none] [] [(450, r1.2)] []) (b := q_kc (t, r, m, z, N, ext, rx, L) I E 4 [some (.ref 450), some (.int x1), some (.int x2), none] [] [(450, r1.2)] []) (P := ¬ (q_bz r1.1) = 0) ok_X7_readNumber rfl q_cn (fun h2 => ?_) (fun h2 => ?_)
  · have hf := q_ip h2 hf
    refine q_blk 6 [] (c' := q_kc (t, r, m, z, N, ext, rx, L) I E 12 [some (.ref 450), some (.int x1), some (.int x2), none] [.int ((r1.2 3) - (1 : Int32)), .ref 452] [(450, r1.2)] []) ok_X7_readNumber rfl q_cn ?_
    obtain ⟨r3, hr3, hf⟩ := q_bd hf
    refine q_kV (M2 := m_X11_value) (As := [.int ((r1.2 3) - (1 : Int32))]) (b := 452) (v2 := some (.int r3)) ok_X7_readNumber ok_X11_value cv_X11_value (ct_X11_value_452 (d := 1) (Nat.le_refl _) hr3) rfl rfl (Or.inl rfl) rfl rfl rfl rfl (Nat.le_trans (Nat.le_of_ble_eq_true rfl) hd) (Nat.le_of_ble_eq_true rfl) (Nat.le_of_ble_eq_true rfl) (Nat.le_of_ble_eq_true rfl) (fun x hx => absurd hx List.not_mem_nil) (q_nmL0 _) (q_nmS0 _) rfl (pos' := 13) (st' := [.int r3]) (lI' := [(450, r1.2)]) (lE' := []) rfl rfl rfl rfl ?_
    refine q_blf 3 [] (a := q_kc (t, r, m, z, N, ext, rx, L) I E 20 [some (.ref 450), some (.int x1), some (.int x2), some (.int r3)] [] [(450, r1.2)] []) (b := q_kc (t, r, m, z, N, ext, rx, L) I E 17 [some (.ref 450), some (.int x1), some (.int x2), some (.int r3)] [] [(450, r1.2)] []) (P := r3 < x1) ok_X7_readNumber rfl q_cn (fun h4 => ?_) (fun h4 => ?_)
    · have hf := q_ip h4 hf
      refine q_blk 6 [] (c' := q_kc (t, r, m, z, N, ext, rx, L) I E 26 [some (.ref 450), some (.int x1), some (.int x2), some (.int r3)] [.int ((r1.2 3) - (1 : Int32)), .int (5 : Int32), .ref 450] [(450, r1.2)] []) ok_X7_readNumber rfl q_cn ?_
      obtain ⟨r5, hr5, hf⟩ := q_bd hf
      refine q_kV (M2 := m_X7_blame) (As := [.int (5 : Int32), .int ((r1.2 3) - (1 : Int32))]) (b := 450) (v2 := none) ok_X7_readNumber ok_X7_blame cv_X7_blame (ct_X7_blame_450 (d := 1) (Nat.le_refl _) hr5) rfl rfl (Or.inl rfl) rfl rfl rfl rfl (Nat.le_trans (Nat.le_of_ble_eq_true rfl) hd) (Nat.le_of_ble_eq_true rfl) (Nat.le_of_ble_eq_true rfl) (Nat.le_of_ble_eq_true rfl) (fun x hx => absurd hx List.not_mem_nil) (q_nmL0 _) (q_nmS0 _) rfl (pos' := 27) (st' := []) (lI' := [(450, r5)]) (lE' := []) rfl rfl rfl rfl ?_
      refine q_blk 1 [] (c' := q_kc (t, r, m, z, N, ext, rx, L) I E 28 [some (.ref 450), some (.int x1), some (.int x2), some (.int r3)] [.int x1] [(450, r5)] []) ok_X7_readNumber rfl q_cn ?_
      cases hf
      exact q_kri ok_X7_readNumber rfl rfl rfl (Nat.le_of_ble_eq_true rfl) (Nat.le_of_ble_eq_true rfl) ⟨rfl, q_hpe (q_fin [450] rfl) (q_fin [] rfl)⟩
    · have hf := q_in h4 hf
      refine q_blf 2 [] (a := q_kc (t, r, m, z, N, ext, rx, L) I E 29 [some (.ref 450), some (.int x1), some (.int x2), some (.int r3)] [] [(450, r1.2)] []) (b := q_kc (t, r, m, z, N, ext, rx, L) I E 20 [some (.ref 450), some (.int x1), some (.int x2), some (.int r3)] [] [(450, r1.2)] []) (P := r3 ≤ x2) ok_X7_readNumber rfl q_cn (fun h6 => ?_) (fun h6 => ?_)
      · have hf := q_ip h6 hf
        refine q_blk 1 [] (c' := q_kc (t, r, m, z, N, ext, rx, L) I E 30 [some (.ref 450), some (.int x1), some (.int x2), some (.int r3)] [.int r3] [(450, r1.2)] []) ok_X7_readNumber rfl q_cn ?_
        cases hf
        exact q_kri ok_X7_readNumber rfl rfl rfl (Nat.le_of_ble_eq_true rfl) (Nat.le_of_ble_eq_true rfl) ⟨rfl, q_hpe (q_fin [450] rfl) (q_fin [] rfl)⟩
      · have hf := q_in h6 hf
        refine q_blk 6 [] (c' := q_kc (t, r, m, z, N, ext, rx, L) I E 26 [some (.ref 450), some (.int x1), some (.int x2), some (.int r3)] [.int ((r1.2 3) - (1 : Int32)), .int (5 : Int32), .ref 450] [(450, r1.2)] []) ok_X7_readNumber rfl q_cn ?_
        obtain ⟨r7, hr7, hf⟩ := q_bd hf
        refine q_kV (M2 := m_X7_blame) (As := [.int (5 : Int32), .int ((r1.2 3) - (1 : Int32))]) (b := 450) (v2 := none) ok_X7_readNumber ok_X7_blame cv_X7_blame (ct_X7_blame_450 (d := 1) (Nat.le_refl _) hr7) rfl rfl (Or.inl rfl) rfl rfl rfl rfl (Nat.le_trans (Nat.le_of_ble_eq_true rfl) hd) (Nat.le_of_ble_eq_true rfl) (Nat.le_of_ble_eq_true rfl) (Nat.le_of_ble_eq_true rfl) (fun x hx => absurd hx List.not_mem_nil) (q_nmL0 _) (q_nmS0 _) rfl (pos' := 27) (st' := []) (lI' := [(450, r7)]) (lE' := []) rfl rfl rfl rfl ?_
        refine q_blk 1 [] (c' := q_kc (t, r, m, z, N, ext, rx, L) I E 28 [some (.ref 450), some (.int x1), some (.int x2), some (.int r3)] [.int x1] [(450, r7)] []) ok_X7_readNumber rfl q_cn ?_
        cases hf
        exact q_kri ok_X7_readNumber rfl rfl rfl (Nat.le_of_ble_eq_true rfl) (Nat.le_of_ble_eq_true rfl) ⟨rfl, q_hpe (q_fin [450] rfl) (q_fin [] rfl)⟩
  · have hf := q_in h2 hf
    refine q_blk 1 [] (c' := q_kc (t, r, m, z, N, ext, rx, L) I E 5 [some (.ref 450), some (.int x1), some (.int x2), none] [.int x1] [(450, r1.2)] []) ok_X7_readNumber rfl q_cn ?_
    cases hf
    exact q_kri ok_X7_readNumber rfl rfl rfl (Nat.le_of_ble_eq_true rfl) (Nat.le_of_ble_eq_true rfl) ⟨rfl, q_hpe (q_fin [450] rfl) (q_fin [] rfl)⟩
set_option maxHeartbeats 4000000 in
theorem ct_X7_readRope_450 {g : q_G} {t : Nat} {r : Nat} {m : Nat} {z : Nat} {N : Nat} {ext : Nat → q_Sh} {rx : Nat → Nat → Option Nat} {L : Nat → Nat → Int64} {d : Nat} (hd : 5 ≤ d)  {I : Nat → Nat → Int32} {E : Nat → Nat → Option Nat} {x1 : Nat} {r0 : Int32 × (Nat → Int32)} (hf : f_X7_readRope (I 450) (I 452) (I 456) (E 453) x1 = some r0) : q_Ct g m_X7_readRope d 0 0 [] [.ref 450, .ref x1] (q_hp (t, r, m, z, N, ext, rx, L) I E) (fun o h' => o = .inl (some (.int r0.1)) ∧ h' = q_hp (t, r, m, z, N, ext, rx, L) (q_ws I [(450, r0.2)]) (q_ws E [])) := by
  rw [f_X7_readRope] at hf
  refine q_Ct_of ok_X7_readRope (Nat.le_of_ble_eq_true rfl) ?_ _ rfl rfl
  change q_J g m_X7_readRope d 0 0 _ [] _ 0 0 (q_kc (t, r, m, z, N, ext, rx, L) I E 0 [some (.ref 450), some (.ref x1)] [] [] [])
  obtain ⟨ug1, hg1, hf⟩ := q_bd hf
  refine q_blk 2 [] (c' := q_kc (t, r, m, z, N, ext, rx, L) I E 2 [some (.ref 450), some (.ref x1)] [.ref x1, .ref 450] [] []) ok_X7_readRope rfl q_cn ?_
  obtain ⟨r1, hr1, hf⟩ := q_bd hf
  refine q_kV (M2 := m_X7_take) (As := [.ref x1]) (b := 450) (v2 := some (.int (q_bz r1.1))) ok_X7_readRope ok_X7_take cv_X7_take (ct_X7_take_450 (d := 3) (Nat.le_refl _) hr1) rfl rfl (Or.inl rfl) rfl rfl rfl rfl (Nat.le_trans (Nat.le_of_ble_eq_true rfl) hd) (Nat.le_of_ble_eq_true rfl) (Nat.le_of_ble_eq_true rfl) (Nat.le_of_ble_eq_true rfl) (fun x hx => absurd hx List.not_mem_nil) (q_nmL0 _) (q_nmS0 _) rfl (pos' := 3) (st' := [.int (q_bz r1.1)]) (lI' := [(450, r1.2)]) (lE' := []) rfl rfl rfl rfl ?_
  refine q_blk 4 [] (c' := q_kc (t, r, m, z, N, ext, rx, L) I E 7 [some (.ref 450), some (.ref x1)] [.int (3 : Int32), .int (0 : Int32), .ref 450] [(450, r1.2)] []) ok_X7_readRope rfl q_cn ?_
  obtain ⟨r2, hr2, hf⟩ := q_bd hf
  refine q_kV (M2 := m_X7_readNumber) (As := [.int (0 : Int32), .int (3 : Int32)]) (b := 450) (v2 := some (.int r2.1)) ok_X7_readRope ok_X7_readNumber cv_X7_readNumber (ct_X7_readNumber_450 (d := 4) (Nat.le_refl _) hr2) rfl rfl (Or.inl rfl) rfl rfl rfl rfl (Nat.le_trans (Nat.le_of_ble_eq_true rfl) hd) (Nat.le_of_ble_eq_true rfl) (Nat.le_of_ble_eq_true rfl) (Nat.le_of_ble_eq_true rfl) (fun x hx => absurd hx List.not_mem_nil) (q_nmL0 _) (q_nmS0 _) rfl (pos' := 8) (st' := [.int r2.1]) (lI' := [(450, r2.2)]) (lE' := []) rfl rfl rfl rfl ?_
  cases hf
  exact q_kri ok_X7_readRope rfl rfl rfl (Nat.le_of_ble_eq_true rfl) (Nat.le_of_ble_eq_true rfl) ⟨rfl, q_hpe (q_fin [450] rfl) (q_fin [] rfl)⟩
set_option maxHeartbeats 4000000 in
theorem ct_X7_readSame_450 {g : q_G} {t : Nat} {m : Nat} {z : Nat} {N : Nat} {ext : Nat → q_Sh} {rx : Nat → Nat → Option Nat} {L : Nat → Nat → Int64} {d : Nat} (hd : 4 ≤ d)  {I : Nat → Nat → Int32} {E : Nat → Nat → Option Nat} {r0 : (Nat → Int32) × (Nat → Int32) × (Nat → Int32) × (Nat → Option Nat)} (hf : f_X7_readSame (I 426) (I 429) (I 450) (I 451) (I 452) (I 456) (E 428) (E 453) = some r0) : q_Ct g m_X7_readSame d 0 0 [] [.ref 450] (q_hp (t, 0, m, z, N, ext, rx, L) I E) (fun o h' => o = .inl none ∧ h' = q_hp (t, 0, m, z, N, ext, rx, L) (q_ws I [(426, r0.1), (429, r0.2.1), (450, r0.2.2.1)]) (q_ws E [(428, r0.2.2.2)])) := by
  rw [f_X7_readSame] at hf
  refine q_Ct_of ok_X7_readSame (Nat.le_of_ble_eq_true rfl) ?_ _ rfl rfl
  change q_J g m_X7_readSame d 0 0 _ [] _ 0 0 (q_kc (t, 0, m, z, N, ext, rx, L) I E 0 [some (.ref 450), none, none] [] [] [])
  refine q_blk 1 [] (c' := q_kc (t, 0, m, z, N, ext, rx, L) I E 1 [some (.ref 450), none, none] [.ref 450] [] []) ok_X7_readSame rfl q_cn ?_
  obtain ⟨r1, hr1, hf⟩ := q_bd hf
  refine q_kV (M2 := m_X7_readHook) (As := []) (b := 450) (v2 := some (.int r1.1)) ok_X7_readSame ok_X7_readHook cv_X7_readHook (ct_X7_readHook_450 (d := 3) (Nat.le_refl _) hr1) rfl rfl (Or.inl rfl) rfl rfl rfl rfl (Nat.le_trans (Nat.le_of_ble_eq_true rfl) hd) (Nat.le_of_ble_eq_true rfl) (Nat.le_of_ble_eq_true rfl) (Nat.le_of_ble_eq_true rfl) (fun x hx => absurd hx List.not_mem_nil) (q_nmL0 _) (q_nmS0 _) rfl (pos' := 2) (st' := [.int r1.1]) (lI' := [(450, r1.2)]) (lE' := []) rfl rfl rfl rfl ?_
  refine q_blk 2 [] (c' := q_kc (t, 0, m, z, N, ext, rx, L) I E 4 [some (.ref 450), some (.int r1.1), none] [.ref 450] [(450, r1.2)] []) ok_X7_readSame rfl q_cn ?_
  obtain ⟨r2, hr2, hf⟩ := q_bd hf
  refine q_kV (M2 := m_X7_readHook) (As := []) (b := 450) (v2 := some (.int r2.1)) ok_X7_readSame ok_X7_readHook cv_X7_readHook (ct_X7_readHook_450 (d := 3) (Nat.le_refl _) hr2) rfl rfl (Or.inl rfl) rfl rfl rfl rfl (Nat.le_trans (Nat.le_of_ble_eq_true rfl) hd) (Nat.le_of_ble_eq_true rfl) (Nat.le_of_ble_eq_true rfl) (Nat.le_of_ble_eq_true rfl) (fun x hx => absurd hx List.not_mem_nil) (q_nmL0 _) (q_nmS0 _) rfl (pos' := 5) (st' := [.int r2.1]) (lI' := [(450, r2.2)]) (lE' := []) rfl rfl rfl rfl ?_
  refine q_blk 9 [] (c' := q_kc (t, 0, m, z, N, ext, rx, L) I E 14 [some (.ref 450), some (.int r1.1), some (.int r2.1)] [.int ((r1.1 * (6 : Int32)) + r2.1), .ref 28, .ref 426] [(450, r2.2)] []) ok_X7_readSame rfl q_cn ?_
  obtain ⟨r3, hr3, hf⟩ := q_bd hf
  refine q_kV (M2 := m_X6_addOrder) (As := [.ref 28, .int ((r1.1 * (6 : Int32)) + r2.1)]) (b := 426) (v2 := none) ok_X7_readSame ok_X6_addOrder cv_X6_addOrder (ct_X6_addOrder_426 (d := 1) (Nat.le_refl _) hr3) rfl rfl (Or.inl rfl) rfl rfl rfl rfl (Nat.le_trans (Nat.le_of_ble_eq_true rfl) hd) (Nat.le_of_ble_eq_true rfl) (Nat.le_of_ble_eq_true rfl) (Nat.le_of_ble_eq_true rfl) (fun x hx => absurd hx List.not_mem_nil) (q_nmL0 _) (q_nmS0 _) rfl (pos' := 15) (st' := []) (lI' := [(426, r3.1), (429, r3.2.1), (450, r2.2)]) (lE' := [(428, r3.2.2)]) rfl rfl rfl rfl ?_
  cases hf
  exact q_krv ok_X7_readSame rfl rfl (Nat.le_of_ble_eq_true rfl) (Nat.le_of_ble_eq_true rfl) ⟨rfl, q_hpe (q_fin [426, 429, 450] rfl) (q_fin [428] rfl)⟩
set_option maxHeartbeats 4000000 in
theorem ct_X7_isRelation {g : q_G} {t : Nat} {r : Nat} {m : Nat} {z : Nat} {N : Nat} {ext : Nat → q_Sh} {rx : Nat → Nat → Option Nat} {L : Nat → Nat → Int64} {d : Nat} (hd : 1 ≤ d)  {I : Nat → Nat → Int32} {E : Nat → Nat → Option Nat} {x0 : Nat} {r0 : Bool} (hf : f_X7_isRelation x0 = some r0) : q_Ct g m_X7_isRelation d 0 0 [] [.ref x0] (q_hp (t, r, m, z, N, ext, rx, L) I E) (fun o h' => o = .inl (some (.int (q_bz r0))) ∧ h' = q_hp (t, r, m, z, N, ext, rx, L) (q_ws I []) (q_ws E [])) := by
  rw [f_X7_isRelation] at hf
  refine q_Ct_of ok_X7_isRelation (Nat.le_of_ble_eq_true rfl) ?_ _ rfl rfl
  change q_J g m_X7_isRelation d 0 0 _ [] _ 0 0 (q_kc (t, r, m, z, N, ext, rx, L) I E 0 [some (.ref x0)] [] [] [])
  obtain ⟨ug0, hg0, hf⟩ := q_bd hf
  refine q_blk 2 [] (c' := q_kc (t, r, m, z, N, ext, rx, L) I E 2 [some (.ref x0)] [.ref 44, .ref x0] [] []) ok_X7_isRelation rfl q_cn ?_
  refine q_o_acmp_eq ok_X7_isRelation rfl (q_e49_lt hg0) (Nat.lt_of_lt_of_le (Nat.lt_succ_self _) (Nat.le_of_ble_eq_true rfl)) (fun h1 => ?_) (fun h1 => ?_)
  · have hf := q_ip h1 hf
    refine q_blk 2 [] (c' := q_kc (t, r, m, z, N, ext, rx, L) I E 18 [some (.ref x0)] [.int (1 : Int32)] [] []) ok_X7_isRelation rfl q_cn ?_
    cases hf
    exact q_kri ok_X7_isRelation rfl rfl rfl (Nat.le_of_ble_eq_true rfl) (Nat.le_of_ble_eq_true rfl) ⟨rfl, q_hpe (q_fin [] rfl) (q_fin [] rfl)⟩
  · have hf := q_in h1 hf
    refine q_blk 2 [] (c' := q_kc (t, r, m, z, N, ext, rx, L) I E 5 [some (.ref x0)] [.ref 45, .ref x0] [] []) ok_X7_isRelation rfl q_cn ?_
    refine q_o_acmp_eq ok_X7_isRelation rfl (q_e49_lt hg0) (Nat.lt_of_lt_of_le (Nat.lt_succ_self _) (Nat.le_of_ble_eq_true rfl)) (fun h2 => ?_) (fun h2 => ?_)
    · have hf := q_ip h2 hf
      refine q_blk 2 [] (c' := q_kc (t, r, m, z, N, ext, rx, L) I E 18 [some (.ref x0)] [.int (1 : Int32)] [] []) ok_X7_isRelation rfl q_cn ?_
      cases hf
      exact q_kri ok_X7_isRelation rfl rfl rfl (Nat.le_of_ble_eq_true rfl) (Nat.le_of_ble_eq_true rfl) ⟨rfl, q_hpe (q_fin [] rfl) (q_fin [] rfl)⟩
    · have hf := q_in h2 hf
      refine q_blk 2 [] (c' := q_kc (t, r, m, z, N, ext, rx, L) I E 8 [some (.ref x0)] [.ref 46, .ref x0] [] []) ok_X7_isRelation rfl q_cn ?_
      refine q_o_acmp_eq ok_X7_isRelation rfl (q_e49_lt hg0) (Nat.lt_of_lt_of_le (Nat.lt_succ_self _) (Nat.le_of_ble_eq_true rfl)) (fun h3 => ?_) (fun h3 => ?_)
      · have hf := q_ip h3 hf
        refine q_blk 2 [] (c' := q_kc (t, r, m, z, N, ext, rx, L) I E 18 [some (.ref x0)] [.int (1 : Int32)] [] []) ok_X7_isRelation rfl q_cn ?_
        cases hf
        exact q_kri ok_X7_isRelation rfl rfl rfl (Nat.le_of_ble_eq_true rfl) (Nat.le_of_ble_eq_true rfl) ⟨rfl, q_hpe (q_fin [] rfl) (q_fin [] rfl)⟩
      · have hf := q_in h3 hf
        refine q_blk 2 [] (c' := q_kc (t, r, m, z, N, ext, rx, L) I E 11 [some (.ref x0)] [.ref 47, .ref x0] [] []) ok_X7_isRelation rfl q_cn ?_
        refine q_o_acmp_eq ok_X7_isRelation rfl (q_e49_lt hg0) (Nat.lt_of_lt_of_le (Nat.lt_succ_self _) (Nat.le_of_ble_eq_true rfl)) (fun h4 => ?_) (fun h4 => ?_)
        · have hf := q_ip h4 hf
          refine q_blk 2 [] (c' := q_kc (t, r, m, z, N, ext, rx, L) I E 18 [some (.ref x0)] [.int (1 : Int32)] [] []) ok_X7_isRelation rfl q_cn ?_
          cases hf
          exact q_kri ok_X7_isRelation rfl rfl rfl (Nat.le_of_ble_eq_true rfl) (Nat.le_of_ble_eq_true rfl) ⟨rfl, q_hpe (q_fin [] rfl) (q_fin [] rfl)⟩
        · have hf := q_in h4 hf
          refine q_blk 2 [] (c' := q_kc (t, r, m, z, N, ext, rx, L) I E 14 [some (.ref x0)] [.ref 48, .ref x0] [] []) ok_X7_isRelation rfl q_cn ?_
          refine q_o_acmp_ne ok_X7_isRelation rfl (q_e49_lt hg0) (Nat.lt_of_lt_of_le (Nat.lt_succ_self _) (Nat.le_of_ble_eq_true rfl)) (fun h5 => ?_) (fun h5 => ?_)
          · have hf := q_in h5 hf
            refine q_blk 1 [] (c' := q_kc (t, r, m, z, N, ext, rx, L) I E 18 [some (.ref x0)] [.int (0 : Int32)] [] []) ok_X7_isRelation rfl q_cn ?_
            cases hf
            exact q_kri ok_X7_isRelation rfl rfl rfl (Nat.le_of_ble_eq_true rfl) (Nat.le_of_ble_eq_true rfl) ⟨rfl, q_hpe (q_fin [] rfl) (q_fin [] rfl)⟩
          · have hf := q_ip h5 hf
            refine q_blk 2 [] (c' := q_kc (t, r, m, z, N, ext, rx, L) I E 18 [some (.ref x0)] [.int (1 : Int32)] [] []) ok_X7_isRelation rfl q_cn ?_
            cases hf
            exact q_kri ok_X7_isRelation rfl rfl rfl (Nat.le_of_ble_eq_true rfl) (Nat.le_of_ble_eq_true rfl) ⟨rfl, q_hpe (q_fin [] rfl) (q_fin [] rfl)⟩
set_option maxHeartbeats 4000000 in
theorem ct_X7_readSingle_450 {g : q_G} {t : Nat} {m : Nat} {z : Nat} {N : Nat} {ext : Nat → q_Sh} {rx : Nat → Nat → Option Nat} {L : Nat → Nat → Int64} {dR : Nat}  {r_readSingle : (Nat → Int32) → (Nat → Int32) → (Nat → Int32) → (Nat → Int32) → (Nat → Int32) → (Nat → Int32) → (Nat → Option Nat) → (Nat → Option Nat) → Int32 → Option ((Nat → Int32) × (Nat → Int32) × (Nat → Int32) × (Nat → Option Nat))} (hq_readSingle : ∀ {I : Nat → Nat → Int32} {E : Nat → Nat → Option Nat} {dd : Int32} {r0 : (Nat → Int32) × (Nat → Int32) × (Nat → Int32) × (Nat → Option Nat)}, r_readSingle ((I 426)) ((I 429)) ((I 450)) ((I 451)) ((I 452)) ((I 456)) ((E 428)) ((E 453)) dd = some r0 → q_Ct g m_X7_readSingle dR 0 0 [] [.ref 450, .int dd] (q_hp (t, 0, m, z, N, ext, rx, L) I E) (fun o h' => o = .inl none ∧ h' = q_hp (t, 0, m, z, N, ext, rx, L) (q_ws I [(426, r0.1), (429, r0.2.1), (450, r0.2.2.1)]) (q_ws E [(428, r0.2.2.2)]))) {r_readTest : (Nat → Int32) → (Nat → Int32) → (Nat → Int32) → (Nat → Int32) → (Nat → Int32) → (Nat → Int32) → (Nat → Option Nat) → (Nat → Option Nat) → Int32 → Option ((Nat → Int32) × (Nat → Int32) × (Nat → Int32) × (Nat → Option Nat))} (hq_readTest : ∀ {I : Nat → Nat → Int32} {E : Nat → Nat → Option Nat} {dd : Int32} {r0 : (Nat → Int32) × (Nat → Int32) × (Nat → Int32) × (Nat → Option Nat)}, r_readTest ((I 426)) ((I 429)) ((I 450)) ((I 451)) ((I 452)) ((I 456)) ((E 428)) ((E 453)) dd = some r0 → q_Ct g m_X7_readTest dR 0 0 [] [.ref 450, .int dd] (q_hp (t, 0, m, z, N, ext, rx, L) I E) (fun o h' => o = .inl none ∧ h' = q_hp (t, 0, m, z, N, ext, rx, L) (q_ws I [(426, r0.1), (429, r0.2.1), (450, r0.2.2.1)]) (q_ws E [(428, r0.2.2.2)]))) {r_readValue : (Nat → Int32) → (Nat → Int32) → (Nat → Int32) → (Nat → Int32) → (Nat → Int32) → (Nat → Int32) → (Nat → Option Nat) → (Nat → Option Nat) → Int32 → Option ((Nat → Int32) × (Nat → Int32) × (Nat → Int32) × (Nat → Option Nat))} (hq_readValue : ∀ {I : Nat → Nat → Int32} {E : Nat → Nat → Option Nat} {dd : Int32} {r0 : (Nat → Int32) × (Nat → Int32) × (Nat → Int32) × (Nat → Option Nat)}, r_readValue ((I 426)) ((I 429)) ((I 450)) ((I 451)) ((I 452)) ((I 456)) ((E 428)) ((E 453)) dd = some r0 → q_Ct g m_X7_readValue dR 0 0 [] [.ref 450, .int dd] (q_hp (t, 0, m, z, N, ext, rx, L) I E) (fun o h' => o = .inl none ∧ h' = q_hp (t, 0, m, z, N, ext, rx, L) (q_ws I [(426, r0.1), (429, r0.2.1), (450, r0.2.2.1)]) (q_ws E [(428, r0.2.2.2)]))) {r_readSum : (Nat → Int32) → (Nat → Int32) → (Nat → Int32) → (Nat → Int32) → (Nat → Int32) → (Nat → Int32) → (Nat → Option Nat) → (Nat → Option Nat) → Int32 → Option ((Nat → Int32) × (Nat → Int32) × (Nat → Int32) × (Nat → Option Nat))} (hq_readSum : ∀ {I : Nat → Nat → Int32} {E : Nat → Nat → Option Nat} {dd : Int32} {r0 : (Nat → Int32) × (Nat → Int32) × (Nat → Int32) × (Nat → Option Nat)}, r_readSum ((I 426)) ((I 429)) ((I 450)) ((I 451)) ((I 452)) ((I 456)) ((E 428)) ((E 453)) dd = some r0 → q_Ct g m_X7_readSum dR 0 0 [] [.ref 450, .int dd] (q_hp (t, 0, m, z, N, ext, rx, L) I E) (fun o h' => o = .inl none ∧ h' = q_hp (t, 0, m, z, N, ext, rx, L) (q_ws I [(426, r0.1), (429, r0.2.1), (450, r0.2.2.1)]) (q_ws E [(428, r0.2.2.2)]))){I : Nat → Nat → Int32} {E : Nat → Nat → Option Nat} {x1 : Int32} {r0 : (Nat → Int32) × (Nat → Int32) × (Nat → Int32) × (Nat → Option Nat)} (hf : f_X7_readSingle r_readSingle r_readTest r_readValue r_readSum (I 426) (I 429) (I 450) (I 451) (I 452) (I 456) (E 428) (E 453) x1 = some r0) : q_Ct g m_X7_readSingle (dR + 8) 0 0 [] [.ref 450, .int x1] (q_hp (t, 0, m, z, N, ext, rx, L) I E) (fun o h' => o = .inl none ∧ h' = q_hp (t, 0, m, z, N, ext, rx, L) (q_ws I [(426, r0.1), (429, r0.2.1), (450, r0.2.2.1)]) (q_ws E [(428, r0.2.2.2)])) := by
  rw [f_X7_readSingle] at hf
  refine q_Ct_of ok_X7_readSingle (Nat.le_of_ble_eq_true rfl) ?_ _ rfl rfl
  change q_J g m_X7_readSingle (dR + 8) 0 0 _ [] _ 0 0 (q_kc (t, 0, m, z, N, ext, rx, L) I E 0 [some (.ref 450), some (.int x1), none] [] [] [])
  refine q_blk 2 [] (c' := q_kc (t, 0, m, z, N, ext, rx, L) I E 2 [some (.ref 450), some (.int x1), none] [.ref 450, .ref 50] [] []) ok_X7_readSingle rfl q_cn ?_
  obtain ⟨r1, hr1, hf⟩ := q_bd hf
  obtain ⟨u2, hu3, hf⟩ := q_bd hf
  refine q_kV (M2 := m_X7_sign) (As := []) (b := 450) (v2 := some (.ref r1)) ok_X7_readSingle ok_X7_sign cv_X7_sign (ct_X7_sign_450 (d := 2) (Nat.le_refl _) hr1) rfl rfl (Or.inl rfl) rfl rfl rfl rfl (by omega) (Nat.le_of_ble_eq_true rfl) (Nat.le_of_ble_eq_true rfl) (Nat.le_of_ble_eq_true rfl) (fun x hx => absurd hx List.not_mem_nil) (q_nmL0 _) (q_nmS0 _) rfl (pos' := 3) (st' := [.ref r1, .ref 50]) (lI' := []) (lE' := []) rfl rfl rfl rfl ?_
  refine q_kord (pos' := 4) ok_X7_readSingle rfl (Or.inl rfl) (q_e49_lt hu3) (by omega) (Nat.le_of_ble_eq_true rfl) (Nat.le_of_ble_eq_true rfl) rfl ?_
  obtain ⟨j4, hj4, hf⟩ := q_bd hf
  refine q_blk 1 [j4] (c' := q_kc (t, 0, m, z, N, ext, rx, L) I E 5 [some (.ref 450), some (.int x1), none] [.int (q_sw j4)] [] []) ok_X7_readSingle rfl (q_cc hj4 q_cn) ?_
  refine q_ksw [6, 21, 35, 48] ok_X7_readSingle rfl (dp := 57) rfl (fun ix t9 ht9 hx9 => ?_) (fun hx9 => ?_) (by decide) (by decide)
  · match ix, ht9 with
    | 0, ht9 =>
      have hx9 : (q_sw j4) = 5 := hx9
      cases ht9
      have hf := q_ip hx9 hf
      refine q_blk 2 [] (c' := q_kc (t, 0, m, z, N, ext, rx, L) I E 8 [some (.ref 450), some (.int x1), none] [.int x1, .ref 450] [] []) ok_X7_readSingle rfl q_cn ?_
      obtain ⟨r5, hr5, hf⟩ := q_bd hf
      refine q_kV (M2 := m_X7_takeDeeper) (As := [.int x1]) (b := 450) (v2 := some (.int (q_bz r5.1))) ok_X7_readSingle ok_X7_takeDeeper cv_X7_takeDeeper (ct_X7_takeDeeper_450 (d := 2) (Nat.le_refl _) hr5) rfl rfl (Or.inl rfl) rfl rfl rfl rfl (by omega) (Nat.le_of_ble_eq_true rfl) (Nat.le_of_ble_eq_true rfl) (Nat.le_of_ble_eq_true rfl) (fun x hx => absurd hx List.not_mem_nil) (q_nmL0 _) (q_nmS0 _) rfl (pos' := 9) (st' := [.int (q_bz r5.1)]) (lI' := [(450, r5.2)]) (lE' := []) rfl rfl rfl rfl ?_
      refine q_blf 0 [] (a := q_kc (t, 0, m, z, N, ext, rx, L) I E 83 [some (.ref 450), some (.int x1), none] [] [(450, r5.2)] []) (b := q_kc (t, 0, m, z, N, ext, rx, L) I E 10 [some (.ref 450), some (.int x1), none] [] [(450, r5.2)] []) (P := (q_bz r5.1) = 0) ok_X7_readSingle rfl q_cn (fun h6 => ?_) (fun h6 => ?_)
      · have hf := q_ip h6 hf
        cases hf
        exact q_krv ok_X7_readSingle rfl rfl (Nat.le_of_ble_eq_true rfl) (Nat.le_of_ble_eq_true rfl) ⟨rfl, q_hpe (q_fin [426, 429, 450] rfl) (q_fin [428] rfl)⟩
      · have hf := q_in h6 hf
        refine q_blk 4 [] (c' := q_kc (t, 0, m, z, N, ext, rx, L) I E 14 [some (.ref 450), some (.int x1), none] [.int (x1 + (1 : Int32)), .ref 450] [(450, r5.2)] []) ok_X7_readSingle rfl q_cn ?_
        obtain ⟨r7, hr7, hf⟩ := q_bd hf
        refine q_kV (M2 := m_X7_readSingle) (As := [.int (x1 + (1 : Int32))]) (b := 450) (v2 := none) ok_X7_readSingle ok_X7_readSingle cv_X7_readSingle (hq_readSingle hr7) rfl rfl (Or.inl rfl) rfl rfl rfl rfl (by omega) (Nat.le_of_ble_eq_true rfl) (Nat.le_of_ble_eq_true rfl) (Nat.le_of_ble_eq_true rfl) (fun x hx => absurd hx List.not_mem_nil) (q_nmL0 _) (q_nmS0 _) rfl (pos' := 15) (st' := []) (lI' := [(426, r7.1), (429, r7.2.1), (450, r7.2.2.1)]) (lE' := [(428, r7.2.2.2)]) rfl rfl rfl rfl ?_
        refine q_blk 4 [] (c' := q_kc (t, 0, m, z, N, ext, rx, L) I E 19 [some (.ref 450), some (.int x1), none] [.int (0 : Int32), .ref 29, .ref 426] [(426, r7.1), (429, r7.2.1), (450, r7.2.2.1)] [(428, r7.2.2.2)]) ok_X7_readSingle rfl q_cn ?_
        obtain ⟨r8, hr8, hf⟩ := q_bd hf
        refine q_kV (M2 := m_X6_addOrder) (As := [.ref 29, .int (0 : Int32)]) (b := 426) (v2 := none) ok_X7_readSingle ok_X6_addOrder cv_X6_addOrder (ct_X6_addOrder_426 (d := 1) (Nat.le_refl _) hr8) rfl rfl (Or.inl rfl) rfl rfl rfl rfl (by omega) (Nat.le_of_ble_eq_true rfl) (Nat.le_of_ble_eq_true rfl) (Nat.le_of_ble_eq_true rfl) (fun x hx => absurd hx List.not_mem_nil) (q_nmL0 _) (q_nmS0 _) rfl (pos' := 20) (st' := []) (lI' := [(426, r8.1), (429, r8.2.1), (450, r7.2.2.1)]) (lE' := [(428, r8.2.2)]) rfl rfl rfl rfl ?_
        refine q_blk 1 [] (c' := q_kc (t, 0, m, z, N, ext, rx, L) I E 83 [some (.ref 450), some (.int x1), none] [] [(426, r8.1), (429, r8.2.1), (450, r7.2.2.1)] [(428, r8.2.2)]) ok_X7_readSingle rfl q_cn ?_
        cases hf
        exact q_krv ok_X7_readSingle rfl rfl (Nat.le_of_ble_eq_true rfl) (Nat.le_of_ble_eq_true rfl) ⟨rfl, q_hpe (q_fin [426, 429, 450] rfl) (q_fin [428] rfl)⟩
    | 1, ht9 =>
      have hx9 : (q_sw j4) = 6 := hx9
      cases ht9
      have hf := q_in (fun hz9 => absurd (hx9.symm.trans hz9) (by decide)) hf
      have hf := q_ip hx9 hf
      refine q_blk 2 [] (c' := q_kc (t, 0, m, z, N, ext, rx, L) I E 23 [some (.ref 450), some (.int x1), none] [.int x1, .ref 450] [] []) ok_X7_readSingle rfl q_cn ?_
      obtain ⟨r9, hr9, hf⟩ := q_bd hf
      refine q_kV (M2 := m_X7_takeDeeper) (As := [.int x1]) (b := 450) (v2 := some (.int (q_bz r9.1))) ok_X7_readSingle ok_X7_takeDeeper cv_X7_takeDeeper (ct_X7_takeDeeper_450 (d := 2) (Nat.le_refl _) hr9) rfl rfl (Or.inl rfl) rfl rfl rfl rfl (by omega) (Nat.le_of_ble_eq_true rfl) (Nat.le_of_ble_eq_true rfl) (Nat.le_of_ble_eq_true rfl) (fun x hx => absurd hx List.not_mem_nil) (q_nmL0 _) (q_nmS0 _) rfl (pos' := 24) (st' := [.int (q_bz r9.1)]) (lI' := [(450, r9.2)]) (lE' := []) rfl rfl rfl rfl ?_
      refine q_blf 0 [] (a := q_kc (t, 0, m, z, N, ext, rx, L) I E 83 [some (.ref 450), some (.int x1), none] [] [(450, r9.2)] []) (b := q_kc (t, 0, m, z, N, ext, rx, L) I E 25 [some (.ref 450), some (.int x1), none] [] [(450, r9.2)] []) (P := (q_bz r9.1) = 0) ok_X7_readSingle rfl q_cn (fun h10 => ?_) (fun h10 => ?_)
      · have hf := q_ip h10 hf
        cases hf
        exact q_krv ok_X7_readSingle rfl rfl (Nat.le_of_ble_eq_true rfl) (Nat.le_of_ble_eq_true rfl) ⟨rfl, q_hpe (q_fin [426, 429, 450] rfl) (q_fin [428] rfl)⟩
      · have hf := q_in h10 hf
        refine q_blk 4 [] (c' := q_kc (t, 0, m, z, N, ext, rx, L) I E 29 [some (.ref 450), some (.int x1), none] [.int (x1 + (1 : Int32)), .ref 450] [(450, r9.2)] []) ok_X7_readSingle rfl q_cn ?_
        obtain ⟨r11, hr11, hf⟩ := q_bd hf
        refine q_kV (M2 := m_X7_readTest) (As := [.int (x1 + (1 : Int32))]) (b := 450) (v2 := none) ok_X7_readSingle ok_X7_readTest cv_X7_readTest (hq_readTest hr11) rfl rfl (Or.inl rfl) rfl rfl rfl rfl (by omega) (Nat.le_of_ble_eq_true rfl) (Nat.le_of_ble_eq_true rfl) (Nat.le_of_ble_eq_true rfl) (fun x hx => absurd hx List.not_mem_nil) (q_nmL0 _) (q_nmS0 _) rfl (pos' := 30) (st' := []) (lI' := [(426, r11.1), (429, r11.2.1), (450, r11.2.2.1)]) (lE' := [(428, r11.2.2.2)]) rfl rfl rfl rfl ?_
        refine q_blk 2 [] (c' := q_kc (t, 0, m, z, N, ext, rx, L) I E 32 [some (.ref 450), some (.int x1), none] [.ref 37, .ref 450] [(426, r11.1), (429, r11.2.1), (450, r11.2.2.1)] [(428, r11.2.2.2)]) ok_X7_readSingle rfl q_cn ?_
        obtain ⟨r12, hr12, hf⟩ := q_bd hf
        refine q_kV (M2 := m_X7_take) (As := [.ref 37]) (b := 450) (v2 := some (.int (q_bz r12.1))) ok_X7_readSingle ok_X7_take cv_X7_take (ct_X7_take_450 (d := 3) (Nat.le_refl _) hr12) rfl rfl (Or.inl rfl) rfl rfl rfl rfl (by omega) (Nat.le_of_ble_eq_true rfl) (Nat.le_of_ble_eq_true rfl) (Nat.le_of_ble_eq_true rfl) (fun x hx => absurd hx List.not_mem_nil) (q_nmL0 _) (q_nmS0 _) rfl (pos' := 33) (st' := [.int (q_bz r12.1)]) (lI' := [(426, r11.1), (429, r11.2.1), (450, r12.2)]) (lE' := [(428, r11.2.2.2)]) rfl rfl rfl rfl ?_
        refine q_blk 2 [] (c' := q_kc (t, 0, m, z, N, ext, rx, L) I E 83 [some (.ref 450), some (.int x1), none] [] [(426, r11.1), (429, r11.2.1), (450, r12.2)] [(428, r11.2.2.2)]) ok_X7_readSingle rfl q_cn ?_
        cases hf
        exact q_krv ok_X7_readSingle rfl rfl (Nat.le_of_ble_eq_true rfl) (Nat.le_of_ble_eq_true rfl) ⟨rfl, q_hpe (q_fin [426, 429, 450] rfl) (q_fin [428] rfl)⟩
    | 2, ht9 =>
      have hx9 : (q_sw j4) = 7 := hx9
      cases ht9
      have hf := q_in (fun hz9 => absurd (hx9.symm.trans hz9) (by decide)) hf
      have hf := q_in (fun hz9 => absurd (hx9.symm.trans hz9) (by decide)) hf
      have hf := q_ip hx9 hf
      refine q_blk 10 [] (c' := q_kc (t, 0, m, z, N, ext, rx, L) I E 45 [some (.ref 450), some (.int x1), none] [.ref 450, .ref 27, .ref 426] [(450, (q_up (I 450) 3 (((I 450) 3) + (1 : Int32))))] []) ok_X7_readSingle rfl q_cn ?_
      obtain ⟨r13, hr13, hf⟩ := q_bd hf
      refine q_kV (M2 := m_X7_readHook) (As := []) (b := 450) (v2 := some (.int r13.1)) ok_X7_readSingle ok_X7_readHook cv_X7_readHook (ct_X7_readHook_450 (d := 3) (Nat.le_refl _) hr13) rfl rfl (Or.inl rfl) rfl rfl rfl rfl (by omega) (Nat.le_of_ble_eq_true rfl) (Nat.le_of_ble_eq_true rfl) (Nat.le_of_ble_eq_true rfl) (fun x hx => absurd hx List.not_mem_nil) (q_nmL0 _) (q_nmS0 _) rfl (pos' := 46) (st' := [.int r13.1, .ref 27, .ref 426]) (lI' := [(450, r13.2)]) (lE' := []) rfl rfl rfl rfl ?_
      obtain ⟨r14, hr14, hf⟩ := q_bd hf
      refine q_kV (M2 := m_X6_addOrder) (As := [.ref 27, .int r13.1]) (b := 426) (v2 := none) ok_X7_readSingle ok_X6_addOrder cv_X6_addOrder (ct_X6_addOrder_426 (d := 1) (Nat.le_refl _) hr14) rfl rfl (Or.inl rfl) rfl rfl rfl rfl (by omega) (Nat.le_of_ble_eq_true rfl) (Nat.le_of_ble_eq_true rfl) (Nat.le_of_ble_eq_true rfl) (fun x hx => absurd hx List.not_mem_nil) (q_nmL0 _) (q_nmS0 _) rfl (pos' := 47) (st' := []) (lI' := [(426, r14.1), (429, r14.2.1), (450, r13.2)]) (lE' := [(428, r14.2.2)]) rfl rfl rfl rfl ?_
      refine q_blk 1 [] (c' := q_kc (t, 0, m, z, N, ext, rx, L) I E 83 [some (.ref 450), some (.int x1), none] [] [(426, r14.1), (429, r14.2.1), (450, r13.2)] [(428, r14.2.2)]) ok_X7_readSingle rfl q_cn ?_
      cases hf
      exact q_krv ok_X7_readSingle rfl rfl (Nat.le_of_ble_eq_true rfl) (Nat.le_of_ble_eq_true rfl) ⟨rfl, q_hpe (q_fin [426, 429, 450] rfl) (q_fin [428] rfl)⟩
    | 3, ht9 =>
      have hx9 : (q_sw j4) = 8 := hx9
      cases ht9
      have hf := q_in (fun hz9 => absurd (hx9.symm.trans hz9) (by decide)) hf
      have hf := q_in (fun hz9 => absurd (hx9.symm.trans hz9) (by decide)) hf
      have hf := q_in (fun hz9 => absurd (hx9.symm.trans hz9) (by decide)) hf
      have hf := q_ip hx9 hf
      refine q_blk 7 [] (c' := q_kc (t, 0, m, z, N, ext, rx, L) I E 55 [some (.ref 450), some (.int x1), none] [.ref 450] [(450, (q_up (I 450) 3 (((I 450) 3) + (1 : Int32))))] []) ok_X7_readSingle rfl q_cn ?_
      obtain ⟨r15, hr15, hf⟩ := q_bd hf
      refine q_kV (M2 := m_X7_readSame) (As := []) (b := 450) (v2 := none) ok_X7_readSingle ok_X7_readSame cv_X7_readSame (ct_X7_readSame_450 (d := 4) (Nat.le_refl _) hr15) rfl rfl (Or.inl rfl) rfl rfl rfl rfl (by omega) (Nat.le_of_ble_eq_true rfl) (Nat.le_of_ble_eq_true rfl) (Nat.le_of_ble_eq_true rfl) (fun x hx => absurd hx List.not_mem_nil) (q_nmL0 _) (q_nmS0 _) rfl (pos' := 56) (st' := []) (lI' := [(426, r15.1), (429, r15.2.1), (450, r15.2.2.1)]) (lE' := [(428, r15.2.2.2)]) rfl rfl rfl rfl ?_
      refine q_blk 1 [] (c' := q_kc (t, 0, m, z, N, ext, rx, L) I E 83 [some (.ref 450), some (.int x1), none] [] [(426, r15.1), (429, r15.2.1), (450, r15.2.2.1)] [(428, r15.2.2.2)]) ok_X7_readSingle rfl q_cn ?_
      cases hf
      exact q_krv ok_X7_readSingle rfl rfl (Nat.le_of_ble_eq_true rfl) (Nat.le_of_ble_eq_true rfl) ⟨rfl, q_hpe (q_fin [426, 429, 450] rfl) (q_fin [428] rfl)⟩
    | z9 + 4, ht9 => cases ht9
  · have hf := q_in (hx9 0 (by decide)) hf
    have hf := q_in (hx9 1 (by decide)) hf
    have hf := q_in (hx9 2 (by decide)) hf
    have hf := q_in (hx9 3 (by decide)) hf
    refine q_blk 2 [] (c' := q_kc (t, 0, m, z, N, ext, rx, L) I E 59 [some (.ref 450), some (.int x1), none] [.int x1, .ref 450] [] []) ok_X7_readSingle rfl q_cn ?_
    obtain ⟨r16, hr16, hf⟩ := q_bd hf
    refine q_kV (M2 := m_X7_readSum) (As := [.int x1]) (b := 450) (v2 := none) ok_X7_readSingle ok_X7_readSum cv_X7_readSum (ct_X7_readSum_450 hq_readValue hq_readSum hr16) rfl rfl (Or.inl rfl) rfl rfl rfl rfl (by omega) (Nat.le_of_ble_eq_true rfl) (Nat.le_of_ble_eq_true rfl) (Nat.le_of_ble_eq_true rfl) (fun x hx => absurd hx List.not_mem_nil) (q_nmL0 _) (q_nmS0 _) rfl (pos' := 60) (st' := []) (lI' := [(426, r16.1), (429, r16.2.1), (450, r16.2.2.1)]) (lE' := [(428, r16.2.2.2)]) rfl rfl rfl rfl ?_
    refine q_blk 1 [] (c' := q_kc (t, 0, m, z, N, ext, rx, L) I E 61 [some (.ref 450), some (.int x1), none] [.ref 450] [(426, r16.1), (429, r16.2.1), (450, r16.2.2.1)] [(428, r16.2.2.2)]) ok_X7_readSingle rfl q_cn ?_
    obtain ⟨r17, hr17, hf⟩ := q_bd hf
    obtain ⟨u18, hu19, hf⟩ := q_bd hf
    refine q_kV (M2 := m_X7_sign) (As := []) (b := 450) (v2 := some (.ref r17)) ok_X7_readSingle ok_X7_sign cv_X7_sign (ct_X7_sign_450 (d := 2) (Nat.le_refl _) hr17) rfl rfl (Or.inl rfl) rfl rfl rfl rfl (by omega) (Nat.le_of_ble_eq_true rfl) (Nat.le_of_ble_eq_true rfl) (Nat.le_of_ble_eq_true rfl) (fun x hx => absurd hx List.not_mem_nil) (q_nmL0 _) (q_nmS0 _) rfl (pos' := 62) (st' := [.ref r17]) (lI' := [(426, r16.1), (429, r16.2.1), (450, r16.2.2.1)]) (lE' := [(428, r16.2.2.2)]) rfl rfl rfl rfl ?_
    refine q_blk 2 [] (c' := q_kc (t, 0, m, z, N, ext, rx, L) I E 64 [some (.ref 450), some (.int x1), some (.ref r17)] [.ref r17] [(426, r16.1), (429, r16.2.1), (450, r16.2.2.1)] [(428, r16.2.2.2)]) ok_X7_readSingle rfl q_cn ?_
    obtain ⟨r20, hr20, hf⟩ := q_bd hf
    refine q_kS (M2 := m_X7_isRelation) (As := [.ref r17]) (v2 := some (.int (q_bz r20))) ok_X7_readSingle ok_X7_isRelation cs_X7_isRelation (ct_X7_isRelation (d := 1) (Nat.le_refl _) hr20) rfl rfl (Or.inl rfl) (by omega) (Nat.le_of_ble_eq_true rfl) (Nat.le_of_ble_eq_true rfl) (Nat.le_of_ble_eq_true rfl) (fun x hx => absurd hx List.not_mem_nil) (q_nmL0 _) (q_nmS0 _) rfl (pos' := 65) (st' := [.int (q_bz r20)]) (lI' := [(426, r16.1), (429, r16.2.1), (450, r16.2.2.1)]) (lE' := [(428, r16.2.2.2)]) rfl rfl rfl rfl ?_
    refine q_blf 0 [] (a := q_kc (t, 0, m, z, N, ext, rx, L) I E 81 [some (.ref 450), some (.int x1), some (.ref r17)] [] [(426, r16.1), (429, r16.2.1), (450, r16.2.2.1)] [(428, r16.2.2.2)]) (b := q_kc (t, 0, m, z, N, ext, rx, L) I E 66 [some (.ref 450), some (.int x1), some (.ref r17)] [] [(426, r16.1), (429, r16.2.1), (450, r16.2.2.1)] [(428, r16.2.2.2)]) (P := (q_bz r20) = 0) ok_X7_readSingle rfl q_cn (fun h21 => ?_) (fun h21 => ?_)
    · have hf := q_ip h21 hf
      refine q_blk 1 [] (c' := q_kc (t, 0, m, z, N, ext, rx, L) I E 82 [some (.ref 450), some (.int x1), some (.ref r17)] [.ref 450] [(426, r16.1), (429, r16.2.1), (450, r16.2.2.1)] [(428, r16.2.2.2)]) ok_X7_readSingle rfl q_cn ?_
      obtain ⟨r22, hr22, hf⟩ := q_bd hf
      refine q_kV (M2 := m_X7_fail) (As := []) (b := 450) (v2 := none) ok_X7_readSingle ok_X7_fail cv_X7_fail (ct_X7_fail_450 (d := 1) (Nat.le_refl _) hr22) rfl rfl (Or.inl rfl) rfl rfl rfl rfl (by omega) (Nat.le_of_ble_eq_true rfl) (Nat.le_of_ble_eq_true rfl) (Nat.le_of_ble_eq_true rfl) (fun x hx => absurd hx List.not_mem_nil) (q_nmL0 _) (q_nmS0 _) rfl (pos' := 83) (st' := []) (lI' := [(426, r16.1), (429, r16.2.1), (450, r22)]) (lE' := [(428, r16.2.2.2)]) rfl rfl rfl rfl ?_
      cases hf
      exact q_krv ok_X7_readSingle rfl rfl (Nat.le_of_ble_eq_true rfl) (Nat.le_of_ble_eq_true rfl) ⟨rfl, q_hpe (q_fin [426, 429, 450] rfl) (q_fin [428] rfl)⟩
    · have hf := q_in h21 hf
      refine q_blk 8 [] (c' := q_kc (t, 0, m, z, N, ext, rx, L) I E 74 [some (.ref 450), some (.int x1), some (.ref r17)] [.int x1, .ref 450] [(426, r16.1), (429, r16.2.1), (450, (q_up r16.2.2.1 3 ((r16.2.2.1 3) + (1 : Int32))))] [(428, r16.2.2.2)]) ok_X7_readSingle rfl q_cn ?_
      obtain ⟨r23, hr23, hf⟩ := q_bd hf
      refine q_kV (M2 := m_X7_readSum) (As := [.int x1]) (b := 450) (v2 := none) ok_X7_readSingle ok_X7_readSum cv_X7_readSum (ct_X7_readSum_450 hq_readValue hq_readSum hr23) rfl rfl (Or.inl rfl) rfl rfl rfl rfl (by omega) (Nat.le_of_ble_eq_true rfl) (Nat.le_of_ble_eq_true rfl) (Nat.le_of_ble_eq_true rfl) (fun x hx => absurd hx List.not_mem_nil) (q_nmL0 _) (q_nmS0 _) rfl (pos' := 75) (st' := []) (lI' := [(426, r23.1), (429, r23.2.1), (450, r23.2.2.1)]) (lE' := [(428, r23.2.2.2)]) rfl rfl rfl rfl ?_
      refine q_blk 4 [] (c' := q_kc (t, 0, m, z, N, ext, rx, L) I E 79 [some (.ref 450), some (.int x1), some (.ref r17)] [.int (0 : Int32), .ref r17, .ref 426] [(426, r23.1), (429, r23.2.1), (450, r23.2.2.1)] [(428, r23.2.2.2)]) ok_X7_readSingle rfl q_cn ?_
      obtain ⟨r24, hr24, hf⟩ := q_bd hf
      refine q_kV (M2 := m_X6_addOrder) (As := [.ref r17, .int (0 : Int32)]) (b := 426) (v2 := none) ok_X7_readSingle ok_X6_addOrder cv_X6_addOrder (ct_X6_addOrder_426 (d := 1) (Nat.le_refl _) hr24) rfl rfl (Or.inl rfl) rfl rfl rfl rfl (by omega) (Nat.le_of_ble_eq_true rfl) (Nat.le_of_ble_eq_true rfl) (Nat.le_of_ble_eq_true rfl) (fun x hx => absurd hx List.not_mem_nil) (q_nmL0 _) (q_nmS0 _) rfl (pos' := 80) (st' := []) (lI' := [(426, r24.1), (429, r24.2.1), (450, r23.2.2.1)]) (lE' := [(428, r24.2.2)]) rfl rfl rfl rfl ?_
      refine q_blk 1 [] (c' := q_kc (t, 0, m, z, N, ext, rx, L) I E 83 [some (.ref 450), some (.int x1), some (.ref r17)] [] [(426, r24.1), (429, r24.2.1), (450, r23.2.2.1)] [(428, r24.2.2)]) ok_X7_readSingle rfl q_cn ?_
      cases hf
      exact q_krv ok_X7_readSingle rfl rfl (Nat.le_of_ble_eq_true rfl) (Nat.le_of_ble_eq_true rfl) ⟨rfl, q_hpe (q_fin [426, 429, 450] rfl) (q_fin [428] rfl)⟩
set_option maxHeartbeats 4000000 in
theorem lp_X7_readBoth_L5_450 {g : q_G} {dR mc ms : Nat} {h0 : q_H} {Q : (Option Value ⊕ String) → q_H → Prop} {k n : Nat} {t : Nat} {m : Nat} {z : Nat} {N : Nat} {ext : Nat → q_Sh} {rx : Nat → Nat → Option Nat} {L : Nat → Nat → Int64} (hk : k ≤ mc) (hn : n ≤ ms)  {r_readSingle : (Nat → Int32) → (Nat → Int32) → (Nat → Int32) → (Nat → Int32) → (Nat → Int32) → (Nat → Int32) → (Nat → Option Nat) → (Nat → Option Nat) → Int32 → Option ((Nat → Int32) × (Nat → Int32) × (Nat → Int32) × (Nat → Option Nat))} (hq_readSingle : ∀ {I : Nat → Nat → Int32} {E : Nat → Nat → Option Nat} {dd : Int32} {r0 : (Nat → Int32) × (Nat → Int32) × (Nat → Int32) × (Nat → Option Nat)}, r_readSingle ((I 426)) ((I 429)) ((I 450)) ((I 451)) ((I 452)) ((I 456)) ((E 428)) ((E 453)) dd = some r0 → q_Ct g m_X7_readSingle dR 0 0 [] [.ref 450, .int dd] (q_hp (t, 0, m, z, N, ext, rx, L) I E) (fun o h' => o = .inl none ∧ h' = q_hp (t, 0, m, z, N, ext, rx, L) (q_ws I [(426, r0.1), (429, r0.2.1), (450, r0.2.2.1)]) (q_ws E [(428, r0.2.2.2)]))) {r_readTest : (Nat → Int32) → (Nat → Int32) → (Nat → Int32) → (Nat → Int32) → (Nat → Int32) → (Nat → Int32) → (Nat → Option Nat) → (Nat → Option Nat) → Int32 → Option ((Nat → Int32) × (Nat → Int32) × (Nat → Int32) × (Nat → Option Nat))} (hq_readTest : ∀ {I : Nat → Nat → Int32} {E : Nat → Nat → Option Nat} {dd : Int32} {r0 : (Nat → Int32) × (Nat → Int32) × (Nat → Int32) × (Nat → Option Nat)}, r_readTest ((I 426)) ((I 429)) ((I 450)) ((I 451)) ((I 452)) ((I 456)) ((E 428)) ((E 453)) dd = some r0 → q_Ct g m_X7_readTest dR 0 0 [] [.ref 450, .int dd] (q_hp (t, 0, m, z, N, ext, rx, L) I E) (fun o h' => o = .inl none ∧ h' = q_hp (t, 0, m, z, N, ext, rx, L) (q_ws I [(426, r0.1), (429, r0.2.1), (450, r0.2.2.1)]) (q_ws E [(428, r0.2.2.2)]))) {r_readValue : (Nat → Int32) → (Nat → Int32) → (Nat → Int32) → (Nat → Int32) → (Nat → Int32) → (Nat → Int32) → (Nat → Option Nat) → (Nat → Option Nat) → Int32 → Option ((Nat → Int32) × (Nat → Int32) × (Nat → Int32) × (Nat → Option Nat))} (hq_readValue : ∀ {I : Nat → Nat → Int32} {E : Nat → Nat → Option Nat} {dd : Int32} {r0 : (Nat → Int32) × (Nat → Int32) × (Nat → Int32) × (Nat → Option Nat)}, r_readValue ((I 426)) ((I 429)) ((I 450)) ((I 451)) ((I 452)) ((I 456)) ((E 428)) ((E 453)) dd = some r0 → q_Ct g m_X7_readValue dR 0 0 [] [.ref 450, .int dd] (q_hp (t, 0, m, z, N, ext, rx, L) I E) (fun o h' => o = .inl none ∧ h' = q_hp (t, 0, m, z, N, ext, rx, L) (q_ws I [(426, r0.1), (429, r0.2.1), (450, r0.2.2.1)]) (q_ws E [(428, r0.2.2.2)]))) {r_readSum : (Nat → Int32) → (Nat → Int32) → (Nat → Int32) → (Nat → Int32) → (Nat → Int32) → (Nat → Int32) → (Nat → Option Nat) → (Nat → Option Nat) → Int32 → Option ((Nat → Int32) × (Nat → Int32) × (Nat → Int32) × (Nat → Option Nat))} (hq_readSum : ∀ {I : Nat → Nat → Int32} {E : Nat → Nat → Option Nat} {dd : Int32} {r0 : (Nat → Int32) × (Nat → Int32) × (Nat → Int32) × (Nat → Option Nat)}, r_readSum ((I 426)) ((I 429)) ((I 450)) ((I 451)) ((I 452)) ((I 456)) ((E 428)) ((E 453)) dd = some r0 → q_Ct g m_X7_readSum dR 0 0 [] [.ref 450, .int dd] (q_hp (t, 0, m, z, N, ext, rx, L) I E) (fun o h' => o = .inl none ∧ h' = q_hp (t, 0, m, z, N, ext, rx, L) (q_ws I [(426, r0.1), (429, r0.2.1), (450, r0.2.2.1)]) (q_ws E [(428, r0.2.2.2)]))) {v1 : Int32} : ∀ (fu : Nat) {I : Nat → Nat → Int32} {E : Nat → Nat → Option Nat} {v2 : Int32} {r0 : (Nat → Int32) × (Nat → Int32) × (Nat → Int32) × (Nat → Option Nat)} (hf : f_X7_readBoth_L5 r_readSingle r_readTest r_readValue r_readSum (I 451) (I 452) (I 456) (E 453) v1 fu (I 426) (I 429) (I 450) (E 428) v2 = some r0) (hK0 : q_J g m_X7_readBoth (dR + 9) mc ms h0 [] Q k n (q_kc (t, 0, m, z, N, ext, rx, L) I E 28 [none, none, none] [] [(426, r0.1), (429, r0.2.1), (450, r0.2.2.1)] [(428, r0.2.2.2)])), q_J g m_X7_readBoth (dR + 9) mc ms h0 [] Q k n (5, [some (.ref 450), some (.int v1), some (.int v2)], [], q_hp (t, 0, m, z, N, ext, rx, L) I E) := by
  intro fu
  induction fu with
  | zero =>
    intro I E v2 r0 hf hK0
    rw [f_X7_readBoth_L5] at hf
    cases hf
  | succ fu ih =>
    intro I E v2 r0 hf hK0
    rw [f_X7_readBoth_L5] at hf
    change q_J g m_X7_readBoth (dR + 9) mc ms h0 [] Q k n (q_kc (t, 0, m, z, N, ext, rx, L) I E 5 [some (.ref 450), some (.int v1), some (.int v2)] [] [] [])
    refine q_blf 2 [] (a := q_kc (t, 0, m, z, N, ext, rx, L) I E 28 [some (.ref 450), some (.int v1), some (.int v2)] [] [] []) (b := q_kc (t, 0, m, z, N, ext, rx, L) I E 8 [some (.ref 450), some (.int v1), some (.int v2)] [] [] []) (P := (400 : Int32) ≤ v2) ok_X7_readBoth rfl q_cn (fun h1 => ?_) (fun h1 => ?_)
    · have hf := q_ip h1 hf
      refine q_less (ls' := [none, none, none]) (q_sb1 (q_sb1 (q_sb1 q_sb0))) ?_
      cases hf
      exact q_Jpad [426, 429, 450] [428] rfl rfl hK0
    · have hf := q_in h1 hf
      refine q_blk 1 [] (c' := q_kc (t, 0, m, z, N, ext, rx, L) I E 9 [some (.ref 450), some (.int v1), some (.int v2)] [.ref 450] [] []) ok_X7_readBoth rfl q_cn ?_
      obtain ⟨r2, hr2, hf⟩ := q_bd hf
      obtain ⟨u3, hu4, hf⟩ := q_bd hf
      refine q_kV (M2 := m_X7_sign) (As := []) (b := 450) (v2 := some (.ref r2)) ok_X7_readBoth ok_X7_sign cv_X7_sign (ct_X7_sign_450 (d := 2) (Nat.le_refl _) hr2) rfl rfl (Or.inl rfl) rfl rfl rfl rfl (by omega) hk hn (Nat.le_of_ble_eq_true rfl) (fun x hx => absurd hx List.not_mem_nil) (q_nmL0 _) (q_nmS0 _) rfl (pos' := 10) (st' := [.ref r2]) (lI' := []) (lE' := []) rfl rfl rfl rfl ?_
      refine q_blk 1 [] (c' := q_kc (t, 0, m, z, N, ext, rx, L) I E 11 [some (.ref 450), some (.int v1), some (.int v2)] [.ref 30, .ref r2] [] []) ok_X7_readBoth rfl q_cn ?_
      refine q_o_acmp_ne ok_X7_readBoth rfl (q_e49_lt hu4) (Nat.lt_of_lt_of_le (Nat.lt_succ_self _) (Nat.le_of_ble_eq_true rfl)) (fun h5 => ?_) (fun h5 => ?_)
      · have hf := q_in h5 hf
        refine q_less (ls' := [none, none, none]) (q_sb1 (q_sb1 (q_sb1 q_sb0))) ?_
        cases hf
        exact q_Jpad [426, 429, 450] [428] rfl rfl hK0
      · have hf := q_ip h5 hf
        refine q_blk 8 [] (c' := q_kc (t, 0, m, z, N, ext, rx, L) I E 20 [some (.ref 450), some (.int v1), some (.int v2)] [.int v1, .ref 450] [(450, (q_up (I 450) 3 (((I 450) 3) + (1 : Int32))))] []) ok_X7_readBoth rfl q_cn ?_
        obtain ⟨r6, hr6, hf⟩ := q_bd hf
        refine q_kV (M2 := m_X7_readSingle) (As := [.int v1]) (b := 450) (v2 := none) ok_X7_readBoth ok_X7_readSingle cv_X7_readSingle (ct_X7_readSingle_450 hq_readSingle hq_readTest hq_readValue hq_readSum hr6) rfl rfl (Or.inl rfl) rfl rfl rfl rfl (by omega) hk hn (Nat.le_of_ble_eq_true rfl) (fun x hx => absurd hx List.not_mem_nil) (q_nmL0 _) (q_nmS0 _) rfl (pos' := 21) (st' := []) (lI' := [(426, r6.1), (429, r6.2.1), (450, r6.2.2.1)]) (lE' := [(428, r6.2.2.2)]) rfl rfl rfl rfl ?_
        refine q_blk 4 [] (c' := q_kc (t, 0, m, z, N, ext, rx, L) I E 25 [some (.ref 450), some (.int v1), some (.int v2)] [.int (0 : Int32), .ref 30, .ref 426] [(426, r6.1), (429, r6.2.1), (450, r6.2.2.1)] [(428, r6.2.2.2)]) ok_X7_readBoth rfl q_cn ?_
        obtain ⟨r7, hr7, hf⟩ := q_bd hf
        refine q_kV (M2 := m_X6_addOrder) (As := [.ref 30, .int (0 : Int32)]) (b := 426) (v2 := none) ok_X7_readBoth ok_X6_addOrder cv_X6_addOrder (ct_X6_addOrder_426 (d := 1) (Nat.le_refl _) hr7) rfl rfl (Or.inl rfl) rfl rfl rfl rfl (by omega) hk hn (Nat.le_of_ble_eq_true rfl) (fun x hx => absurd hx List.not_mem_nil) (q_nmL0 _) (q_nmS0 _) rfl (pos' := 26) (st' := []) (lI' := [(426, r7.1), (429, r7.2.1), (450, r6.2.2.1)]) (lE' := [(428, r7.2.2)]) rfl rfl rfl rfl ?_
        refine q_blk 2 [] (c' := q_kc (t, 0, m, z, N, ext, rx, L) I E 5 [some (.ref 450), some (.int v1), some (.int (v2 + 1))] [] [(426, r7.1), (429, r7.2.1), (450, r6.2.2.1)] [(428, r7.2.2)]) ok_X7_readBoth rfl q_cn ?_
        exact ih (I := q_ws I [(426, r7.1), (429, r7.2.1), (450, r6.2.2.1)]) (E := q_ws E [(428, r7.2.2)]) hf (q_Jmrg rfl rfl hK0)
set_option maxHeartbeats 4000000 in
theorem ct_X7_readBoth_450 {g : q_G} {t : Nat} {m : Nat} {z : Nat} {N : Nat} {ext : Nat → q_Sh} {rx : Nat → Nat → Option Nat} {L : Nat → Nat → Int64} {dR : Nat}  {r_readSingle : (Nat → Int32) → (Nat → Int32) → (Nat → Int32) → (Nat → Int32) → (Nat → Int32) → (Nat → Int32) → (Nat → Option Nat) → (Nat → Option Nat) → Int32 → Option ((Nat → Int32) × (Nat → Int32) × (Nat → Int32) × (Nat → Option Nat))} (hq_readSingle : ∀ {I : Nat → Nat → Int32} {E : Nat → Nat → Option Nat} {dd : Int32} {r0 : (Nat → Int32) × (Nat → Int32) × (Nat → Int32) × (Nat → Option Nat)}, r_readSingle ((I 426)) ((I 429)) ((I 450)) ((I 451)) ((I 452)) ((I 456)) ((E 428)) ((E 453)) dd = some r0 → q_Ct g m_X7_readSingle dR 0 0 [] [.ref 450, .int dd] (q_hp (t, 0, m, z, N, ext, rx, L) I E) (fun o h' => o = .inl none ∧ h' = q_hp (t, 0, m, z, N, ext, rx, L) (q_ws I [(426, r0.1), (429, r0.2.1), (450, r0.2.2.1)]) (q_ws E [(428, r0.2.2.2)]))) {r_readTest : (Nat → Int32) → (Nat → Int32) → (Nat → Int32) → (Nat → Int32) → (Nat → Int32) → (Nat → Int32) → (Nat → Option Nat) → (Nat → Option Nat) → Int32 → Option ((Nat → Int32) × (Nat → Int32) × (Nat → Int32) × (Nat → Option Nat))} (hq_readTest : ∀ {I : Nat → Nat → Int32} {E : Nat → Nat → Option Nat} {dd : Int32} {r0 : (Nat → Int32) × (Nat → Int32) × (Nat → Int32) × (Nat → Option Nat)}, r_readTest ((I 426)) ((I 429)) ((I 450)) ((I 451)) ((I 452)) ((I 456)) ((E 428)) ((E 453)) dd = some r0 → q_Ct g m_X7_readTest dR 0 0 [] [.ref 450, .int dd] (q_hp (t, 0, m, z, N, ext, rx, L) I E) (fun o h' => o = .inl none ∧ h' = q_hp (t, 0, m, z, N, ext, rx, L) (q_ws I [(426, r0.1), (429, r0.2.1), (450, r0.2.2.1)]) (q_ws E [(428, r0.2.2.2)]))) {r_readValue : (Nat → Int32) → (Nat → Int32) → (Nat → Int32) → (Nat → Int32) → (Nat → Int32) → (Nat → Int32) → (Nat → Option Nat) → (Nat → Option Nat) → Int32 → Option ((Nat → Int32) × (Nat → Int32) × (Nat → Int32) × (Nat → Option Nat))} (hq_readValue : ∀ {I : Nat → Nat → Int32} {E : Nat → Nat → Option Nat} {dd : Int32} {r0 : (Nat → Int32) × (Nat → Int32) × (Nat → Int32) × (Nat → Option Nat)}, r_readValue ((I 426)) ((I 429)) ((I 450)) ((I 451)) ((I 452)) ((I 456)) ((E 428)) ((E 453)) dd = some r0 → q_Ct g m_X7_readValue dR 0 0 [] [.ref 450, .int dd] (q_hp (t, 0, m, z, N, ext, rx, L) I E) (fun o h' => o = .inl none ∧ h' = q_hp (t, 0, m, z, N, ext, rx, L) (q_ws I [(426, r0.1), (429, r0.2.1), (450, r0.2.2.1)]) (q_ws E [(428, r0.2.2.2)]))) {r_readSum : (Nat → Int32) → (Nat → Int32) → (Nat → Int32) → (Nat → Int32) → (Nat → Int32) → (Nat → Int32) → (Nat → Option Nat) → (Nat → Option Nat) → Int32 → Option ((Nat → Int32) × (Nat → Int32) × (Nat → Int32) × (Nat → Option Nat))} (hq_readSum : ∀ {I : Nat → Nat → Int32} {E : Nat → Nat → Option Nat} {dd : Int32} {r0 : (Nat → Int32) × (Nat → Int32) × (Nat → Int32) × (Nat → Option Nat)}, r_readSum ((I 426)) ((I 429)) ((I 450)) ((I 451)) ((I 452)) ((I 456)) ((E 428)) ((E 453)) dd = some r0 → q_Ct g m_X7_readSum dR 0 0 [] [.ref 450, .int dd] (q_hp (t, 0, m, z, N, ext, rx, L) I E) (fun o h' => o = .inl none ∧ h' = q_hp (t, 0, m, z, N, ext, rx, L) (q_ws I [(426, r0.1), (429, r0.2.1), (450, r0.2.2.1)]) (q_ws E [(428, r0.2.2.2)]))){I : Nat → Nat → Int32} {E : Nat → Nat → Option Nat} {x1 : Int32} {r0 : (Nat → Int32) × (Nat → Int32) × (Nat → Int32) × (Nat → Option Nat)} (hf : f_X7_readBoth r_readSingle r_readTest r_readValue r_readSum (I 426) (I 429) (I 450) (I 451) (I 452) (I 456) (E 428) (E 453) x1 = some r0) : q_Ct g m_X7_readBoth (dR + 9) 0 0 [] [.ref 450, .int x1] (q_hp (t, 0, m, z, N, ext, rx, L) I E) (fun o h' => o = .inl none ∧ h' = q_hp (t, 0, m, z, N, ext, rx, L) (q_ws I [(426, r0.1), (429, r0.2.1), (450, r0.2.2.1)]) (q_ws E [(428, r0.2.2.2)])) := by
  rw [f_X7_readBoth] at hf
  refine q_Ct_of ok_X7_readBoth (Nat.le_of_ble_eq_true rfl) ?_ _ rfl rfl
  change q_J g m_X7_readBoth (dR + 9) 0 0 _ [] _ 0 0 (q_kc (t, 0, m, z, N, ext, rx, L) I E 0 [some (.ref 450), some (.int x1), none] [] [] [])
  refine q_blk 2 [] (c' := q_kc (t, 0, m, z, N, ext, rx, L) I E 2 [some (.ref 450), some (.int x1), none] [.int x1, .ref 450] [] []) ok_X7_readBoth rfl q_cn ?_
  obtain ⟨r8, hr8, hf⟩ := q_bd hf
  refine q_kV (M2 := m_X7_readSingle) (As := [.int x1]) (b := 450) (v2 := none) ok_X7_readBoth ok_X7_readSingle cv_X7_readSingle (ct_X7_readSingle_450 hq_readSingle hq_readTest hq_readValue hq_readSum hr8) rfl rfl (Or.inl rfl) rfl rfl rfl rfl (by omega) (Nat.le_of_ble_eq_true rfl) (Nat.le_of_ble_eq_true rfl) (Nat.le_of_ble_eq_true rfl) (fun x hx => absurd hx List.not_mem_nil) (q_nmL0 _) (q_nmS0 _) rfl (pos' := 3) (st' := []) (lI' := [(426, r8.1), (429, r8.2.1), (450, r8.2.2.1)]) (lE' := [(428, r8.2.2.2)]) rfl rfl rfl rfl ?_
  refine q_blk 2 [] (c' := q_kc (t, 0, m, z, N, ext, rx, L) I E 5 [some (.ref 450), some (.int x1), some (.int (0 : Int32))] [] [(426, r8.1), (429, r8.2.1), (450, r8.2.2.1)] [(428, r8.2.2.2)]) ok_X7_readBoth rfl q_cn ?_
  obtain ⟨r9, hr9, hf⟩ := q_bd hf
  refine lp_X7_readBoth_L5_450 (I := q_ws I [(426, r8.1), (429, r8.2.1), (450, r8.2.2.1)]) (E := q_ws E [(428, r8.2.2.2)]) (Nat.le_of_ble_eq_true rfl) (Nat.le_of_ble_eq_true rfl) hq_readSingle hq_readTest hq_readValue hq_readSum 4096 hr9 ?_
  refine q_Jmrg (lI' := [(426, r9.1), (429, r9.2.1), (450, r9.2.2.1)]) (lE' := [(428, r9.2.2.2)]) rfl rfl ?_
  cases hf
  exact q_krv ok_X7_readBoth rfl rfl (Nat.le_of_ble_eq_true rfl) (Nat.le_of_ble_eq_true rfl) ⟨rfl, q_hpe (q_fin [426, 429, 450] rfl) (q_fin [428] rfl)⟩
set_option maxHeartbeats 4000000 in
theorem lp_X7_readTest_L5_450 {g : q_G} {dR mc ms : Nat} {h0 : q_H} {Q : (Option Value ⊕ String) → q_H → Prop} {k n : Nat} {t : Nat} {m : Nat} {z : Nat} {N : Nat} {ext : Nat → q_Sh} {rx : Nat → Nat → Option Nat} {L : Nat → Nat → Int64} (hk : k ≤ mc) (hn : n ≤ ms)  {r_readSingle : (Nat → Int32) → (Nat → Int32) → (Nat → Int32) → (Nat → Int32) → (Nat → Int32) → (Nat → Int32) → (Nat → Option Nat) → (Nat → Option Nat) → Int32 → Option ((Nat → Int32) × (Nat → Int32) × (Nat → Int32) × (Nat → Option Nat))} (hq_readSingle : ∀ {I : Nat → Nat → Int32} {E : Nat → Nat → Option Nat} {dd : Int32} {r0 : (Nat → Int32) × (Nat → Int32) × (Nat → Int32) × (Nat → Option Nat)}, r_readSingle ((I 426)) ((I 429)) ((I 450)) ((I 451)) ((I 452)) ((I 456)) ((E 428)) ((E 453)) dd = some r0 → q_Ct g m_X7_readSingle dR 0 0 [] [.ref 450, .int dd] (q_hp (t, 0, m, z, N, ext, rx, L) I E) (fun o h' => o = .inl none ∧ h' = q_hp (t, 0, m, z, N, ext, rx, L) (q_ws I [(426, r0.1), (429, r0.2.1), (450, r0.2.2.1)]) (q_ws E [(428, r0.2.2.2)]))) {r_readTest : (Nat → Int32) → (Nat → Int32) → (Nat → Int32) → (Nat → Int32) → (Nat → Int32) → (Nat → Int32) → (Nat → Option Nat) → (Nat → Option Nat) → Int32 → Option ((Nat → Int32) × (Nat → Int32) × (Nat → Int32) × (Nat → Option Nat))} (hq_readTest : ∀ {I : Nat → Nat → Int32} {E : Nat → Nat → Option Nat} {dd : Int32} {r0 : (Nat → Int32) × (Nat → Int32) × (Nat → Int32) × (Nat → Option Nat)}, r_readTest ((I 426)) ((I 429)) ((I 450)) ((I 451)) ((I 452)) ((I 456)) ((E 428)) ((E 453)) dd = some r0 → q_Ct g m_X7_readTest dR 0 0 [] [.ref 450, .int dd] (q_hp (t, 0, m, z, N, ext, rx, L) I E) (fun o h' => o = .inl none ∧ h' = q_hp (t, 0, m, z, N, ext, rx, L) (q_ws I [(426, r0.1), (429, r0.2.1), (450, r0.2.2.1)]) (q_ws E [(428, r0.2.2.2)]))) {r_readValue : (Nat → Int32) → (Nat → Int32) → (Nat → Int32) → (Nat → Int32) → (Nat → Int32) → (Nat → Int32) → (Nat → Option Nat) → (Nat → Option Nat) → Int32 → Option ((Nat → Int32) × (Nat → Int32) × (Nat → Int32) × (Nat → Option Nat))} (hq_readValue : ∀ {I : Nat → Nat → Int32} {E : Nat → Nat → Option Nat} {dd : Int32} {r0 : (Nat → Int32) × (Nat → Int32) × (Nat → Int32) × (Nat → Option Nat)}, r_readValue ((I 426)) ((I 429)) ((I 450)) ((I 451)) ((I 452)) ((I 456)) ((E 428)) ((E 453)) dd = some r0 → q_Ct g m_X7_readValue dR 0 0 [] [.ref 450, .int dd] (q_hp (t, 0, m, z, N, ext, rx, L) I E) (fun o h' => o = .inl none ∧ h' = q_hp (t, 0, m, z, N, ext, rx, L) (q_ws I [(426, r0.1), (429, r0.2.1), (450, r0.2.2.1)]) (q_ws E [(428, r0.2.2.2)]))) {r_readSum : (Nat → Int32) → (Nat → Int32) → (Nat → Int32) → (Nat → Int32) → (Nat → Int32) → (Nat → Int32) → (Nat → Option Nat) → (Nat → Option Nat) → Int32 → Option ((Nat → Int32) × (Nat → Int32) × (Nat → Int32) × (Nat → Option Nat))} (hq_readSum : ∀ {I : Nat → Nat → Int32} {E : Nat → Nat → Option Nat} {dd : Int32} {r0 : (Nat → Int32) × (Nat → Int32) × (Nat → Int32) × (Nat → Option Nat)}, r_readSum ((I 426)) ((I 429)) ((I 450)) ((I 451)) ((I 452)) ((I 456)) ((E 428)) ((E 453)) dd = some r0 → q_Ct g m_X7_readSum dR 0 0 [] [.ref 450, .int dd] (q_hp (t, 0, m, z, N, ext, rx, L) I E) (fun o h' => o = .inl none ∧ h' = q_hp (t, 0, m, z, N, ext, rx, L) (q_ws I [(426, r0.1), (429, r0.2.1), (450, r0.2.2.1)]) (q_ws E [(428, r0.2.2.2)]))) {v1 : Int32} : ∀ (fu : Nat) {I : Nat → Nat → Int32} {E : Nat → Nat → Option Nat} {v2 : Int32} {r0 : (Nat → Int32) × (Nat → Int32) × (Nat → Int32) × (Nat → Option Nat)} (hf : f_X7_readTest_L5 r_readSingle r_readTest r_readValue r_readSum (I 451) (I 452) (I 456) (E 453) v1 fu (I 426) (I 429) (I 450) (E 428) v2 = some r0) (hK0 : q_J g m_X7_readTest (dR + 10) mc ms h0 [] Q k n (q_kc (t, 0, m, z, N, ext, rx, L) I E 28 [none, none, none] [] [(426, r0.1), (429, r0.2.1), (450, r0.2.2.1)] [(428, r0.2.2.2)])), q_J g m_X7_readTest (dR + 10) mc ms h0 [] Q k n (5, [some (.ref 450), some (.int v1), some (.int v2)], [], q_hp (t, 0, m, z, N, ext, rx, L) I E) := by
  intro fu
  induction fu with
  | zero =>
    intro I E v2 r0 hf hK0
    rw [f_X7_readTest_L5] at hf
    cases hf
  | succ fu ih =>
    intro I E v2 r0 hf hK0
    rw [f_X7_readTest_L5] at hf
    change q_J g m_X7_readTest (dR + 10) mc ms h0 [] Q k n (q_kc (t, 0, m, z, N, ext, rx, L) I E 5 [some (.ref 450), some (.int v1), some (.int v2)] [] [] [])
    refine q_blf 2 [] (a := q_kc (t, 0, m, z, N, ext, rx, L) I E 28 [some (.ref 450), some (.int v1), some (.int v2)] [] [] []) (b := q_kc (t, 0, m, z, N, ext, rx, L) I E 8 [some (.ref 450), some (.int v1), some (.int v2)] [] [] []) (P := (400 : Int32) ≤ v2) ok_X7_readTest rfl q_cn (fun h1 => ?_) (fun h1 => ?_)
    · have hf := q_ip h1 hf
      refine q_less (ls' := [none, none, none]) (q_sb1 (q_sb1 (q_sb1 q_sb0))) ?_
      cases hf
      exact q_Jpad [426, 429, 450] [428] rfl rfl hK0
    · have hf := q_in h1 hf
      refine q_blk 1 [] (c' := q_kc (t, 0, m, z, N, ext, rx, L) I E 9 [some (.ref 450), some (.int v1), some (.int v2)] [.ref 450] [] []) ok_X7_readTest rfl q_cn ?_
      obtain ⟨r2, hr2, hf⟩ := q_bd hf
      obtain ⟨u3, hu4, hf⟩ := q_bd hf
      refine q_kV (M2 := m_X7_sign) (As := []) (b := 450) (v2 := some (.ref r2)) ok_X7_readTest ok_X7_sign cv_X7_sign (ct_X7_sign_450 (d := 2) (Nat.le_refl _) hr2) rfl rfl (Or.inl rfl) rfl rfl rfl rfl (by omega) hk hn (Nat.le_of_ble_eq_true rfl) (fun x hx => absurd hx List.not_mem_nil) (q_nmL0 _) (q_nmS0 _) rfl (pos' := 10) (st' := [.ref r2]) (lI' := []) (lE' := []) rfl rfl rfl rfl ?_
      refine q_blk 1 [] (c' := q_kc (t, 0, m, z, N, ext, rx, L) I E 11 [some (.ref 450), some (.int v1), some (.int v2)] [.ref 31, .ref r2] [] []) ok_X7_readTest rfl q_cn ?_
      refine q_o_acmp_ne ok_X7_readTest rfl (q_e49_lt hu4) (Nat.lt_of_lt_of_le (Nat.lt_succ_self _) (Nat.le_of_ble_eq_true rfl)) (fun h5 => ?_) (fun h5 => ?_)
      · have hf := q_in h5 hf
        refine q_less (ls' := [none, none, none]) (q_sb1 (q_sb1 (q_sb1 q_sb0))) ?_
        cases hf
        exact q_Jpad [426, 429, 450] [428] rfl rfl hK0
      · have hf := q_ip h5 hf
        refine q_blk 8 [] (c' := q_kc (t, 0, m, z, N, ext, rx, L) I E 20 [some (.ref 450), some (.int v1), some (.int v2)] [.int v1, .ref 450] [(450, (q_up (I 450) 3 (((I 450) 3) + (1 : Int32))))] []) ok_X7_readTest rfl q_cn ?_
        obtain ⟨r6, hr6, hf⟩ := q_bd hf
        refine q_kV (M2 := m_X7_readBoth) (As := [.int v1]) (b := 450) (v2 := none) ok_X7_readTest ok_X7_readBoth cv_X7_readBoth (ct_X7_readBoth_450 hq_readSingle hq_readTest hq_readValue hq_readSum hr6) rfl rfl (Or.inl rfl) rfl rfl rfl rfl (by omega) hk hn (Nat.le_of_ble_eq_true rfl) (fun x hx => absurd hx List.not_mem_nil) (q_nmL0 _) (q_nmS0 _) rfl (pos' := 21) (st' := []) (lI' := [(426, r6.1), (429, r6.2.1), (450, r6.2.2.1)]) (lE' := [(428, r6.2.2.2)]) rfl rfl rfl rfl ?_
        refine q_blk 4 [] (c' := q_kc (t, 0, m, z, N, ext, rx, L) I E 25 [some (.ref 450), some (.int v1), some (.int v2)] [.int (0 : Int32), .ref 31, .ref 426] [(426, r6.1), (429, r6.2.1), (450, r6.2.2.1)] [(428, r6.2.2.2)]) ok_X7_readTest rfl q_cn ?_
        obtain ⟨r7, hr7, hf⟩ := q_bd hf
        refine q_kV (M2 := m_X6_addOrder) (As := [.ref 31, .int (0 : Int32)]) (b := 426) (v2 := none) ok_X7_readTest ok_X6_addOrder cv_X6_addOrder (ct_X6_addOrder_426 (d := 1) (Nat.le_refl _) hr7) rfl rfl (Or.inl rfl) rfl rfl rfl rfl (by omega) hk hn (Nat.le_of_ble_eq_true rfl) (fun x hx => absurd hx List.not_mem_nil) (q_nmL0 _) (q_nmS0 _) rfl (pos' := 26) (st' := []) (lI' := [(426, r7.1), (429, r7.2.1), (450, r6.2.2.1)]) (lE' := [(428, r7.2.2)]) rfl rfl rfl rfl ?_
        refine q_blk 2 [] (c' := q_kc (t, 0, m, z, N, ext, rx, L) I E 5 [some (.ref 450), some (.int v1), some (.int (v2 + 1))] [] [(426, r7.1), (429, r7.2.1), (450, r6.2.2.1)] [(428, r7.2.2)]) ok_X7_readTest rfl q_cn ?_
        exact ih (I := q_ws I [(426, r7.1), (429, r7.2.1), (450, r6.2.2.1)]) (E := q_ws E [(428, r7.2.2)]) hf (q_Jmrg rfl rfl hK0)
set_option maxHeartbeats 4000000 in
theorem ct_X7_readTest_450 {g : q_G} {t : Nat} {m : Nat} {z : Nat} {N : Nat} {ext : Nat → q_Sh} {rx : Nat → Nat → Option Nat} {L : Nat → Nat → Int64} {dR : Nat}  {r_readSingle : (Nat → Int32) → (Nat → Int32) → (Nat → Int32) → (Nat → Int32) → (Nat → Int32) → (Nat → Int32) → (Nat → Option Nat) → (Nat → Option Nat) → Int32 → Option ((Nat → Int32) × (Nat → Int32) × (Nat → Int32) × (Nat → Option Nat))} (hq_readSingle : ∀ {I : Nat → Nat → Int32} {E : Nat → Nat → Option Nat} {dd : Int32} {r0 : (Nat → Int32) × (Nat → Int32) × (Nat → Int32) × (Nat → Option Nat)}, r_readSingle ((I 426)) ((I 429)) ((I 450)) ((I 451)) ((I 452)) ((I 456)) ((E 428)) ((E 453)) dd = some r0 → q_Ct g m_X7_readSingle dR 0 0 [] [.ref 450, .int dd] (q_hp (t, 0, m, z, N, ext, rx, L) I E) (fun o h' => o = .inl none ∧ h' = q_hp (t, 0, m, z, N, ext, rx, L) (q_ws I [(426, r0.1), (429, r0.2.1), (450, r0.2.2.1)]) (q_ws E [(428, r0.2.2.2)]))) {r_readTest : (Nat → Int32) → (Nat → Int32) → (Nat → Int32) → (Nat → Int32) → (Nat → Int32) → (Nat → Int32) → (Nat → Option Nat) → (Nat → Option Nat) → Int32 → Option ((Nat → Int32) × (Nat → Int32) × (Nat → Int32) × (Nat → Option Nat))} (hq_readTest : ∀ {I : Nat → Nat → Int32} {E : Nat → Nat → Option Nat} {dd : Int32} {r0 : (Nat → Int32) × (Nat → Int32) × (Nat → Int32) × (Nat → Option Nat)}, r_readTest ((I 426)) ((I 429)) ((I 450)) ((I 451)) ((I 452)) ((I 456)) ((E 428)) ((E 453)) dd = some r0 → q_Ct g m_X7_readTest dR 0 0 [] [.ref 450, .int dd] (q_hp (t, 0, m, z, N, ext, rx, L) I E) (fun o h' => o = .inl none ∧ h' = q_hp (t, 0, m, z, N, ext, rx, L) (q_ws I [(426, r0.1), (429, r0.2.1), (450, r0.2.2.1)]) (q_ws E [(428, r0.2.2.2)]))) {r_readValue : (Nat → Int32) → (Nat → Int32) → (Nat → Int32) → (Nat → Int32) → (Nat → Int32) → (Nat → Int32) → (Nat → Option Nat) → (Nat → Option Nat) → Int32 → Option ((Nat → Int32) × (Nat → Int32) × (Nat → Int32) × (Nat → Option Nat))} (hq_readValue : ∀ {I : Nat → Nat → Int32} {E : Nat → Nat → Option Nat} {dd : Int32} {r0 : (Nat → Int32) × (Nat → Int32) × (Nat → Int32) × (Nat → Option Nat)}, r_readValue ((I 426)) ((I 429)) ((I 450)) ((I 451)) ((I 452)) ((I 456)) ((E 428)) ((E 453)) dd = some r0 → q_Ct g m_X7_readValue dR 0 0 [] [.ref 450, .int dd] (q_hp (t, 0, m, z, N, ext, rx, L) I E) (fun o h' => o = .inl none ∧ h' = q_hp (t, 0, m, z, N, ext, rx, L) (q_ws I [(426, r0.1), (429, r0.2.1), (450, r0.2.2.1)]) (q_ws E [(428, r0.2.2.2)]))) {r_readSum : (Nat → Int32) → (Nat → Int32) → (Nat → Int32) → (Nat → Int32) → (Nat → Int32) → (Nat → Int32) → (Nat → Option Nat) → (Nat → Option Nat) → Int32 → Option ((Nat → Int32) × (Nat → Int32) × (Nat → Int32) × (Nat → Option Nat))} (hq_readSum : ∀ {I : Nat → Nat → Int32} {E : Nat → Nat → Option Nat} {dd : Int32} {r0 : (Nat → Int32) × (Nat → Int32) × (Nat → Int32) × (Nat → Option Nat)}, r_readSum ((I 426)) ((I 429)) ((I 450)) ((I 451)) ((I 452)) ((I 456)) ((E 428)) ((E 453)) dd = some r0 → q_Ct g m_X7_readSum dR 0 0 [] [.ref 450, .int dd] (q_hp (t, 0, m, z, N, ext, rx, L) I E) (fun o h' => o = .inl none ∧ h' = q_hp (t, 0, m, z, N, ext, rx, L) (q_ws I [(426, r0.1), (429, r0.2.1), (450, r0.2.2.1)]) (q_ws E [(428, r0.2.2.2)]))){I : Nat → Nat → Int32} {E : Nat → Nat → Option Nat} {x1 : Int32} {r0 : (Nat → Int32) × (Nat → Int32) × (Nat → Int32) × (Nat → Option Nat)} (hf : f_X7_readTest r_readSingle r_readTest r_readValue r_readSum (I 426) (I 429) (I 450) (I 451) (I 452) (I 456) (E 428) (E 453) x1 = some r0) : q_Ct g m_X7_readTest (dR + 10) 0 0 [] [.ref 450, .int x1] (q_hp (t, 0, m, z, N, ext, rx, L) I E) (fun o h' => o = .inl none ∧ h' = q_hp (t, 0, m, z, N, ext, rx, L) (q_ws I [(426, r0.1), (429, r0.2.1), (450, r0.2.2.1)]) (q_ws E [(428, r0.2.2.2)])) := by
  rw [f_X7_readTest] at hf
  refine q_Ct_of ok_X7_readTest (Nat.le_of_ble_eq_true rfl) ?_ _ rfl rfl
  change q_J g m_X7_readTest (dR + 10) 0 0 _ [] _ 0 0 (q_kc (t, 0, m, z, N, ext, rx, L) I E 0 [some (.ref 450), some (.int x1), none] [] [] [])
  refine q_blk 2 [] (c' := q_kc (t, 0, m, z, N, ext, rx, L) I E 2 [some (.ref 450), some (.int x1), none] [.int x1, .ref 450] [] []) ok_X7_readTest rfl q_cn ?_
  obtain ⟨r8, hr8, hf⟩ := q_bd hf
  refine q_kV (M2 := m_X7_readBoth) (As := [.int x1]) (b := 450) (v2 := none) ok_X7_readTest ok_X7_readBoth cv_X7_readBoth (ct_X7_readBoth_450 hq_readSingle hq_readTest hq_readValue hq_readSum hr8) rfl rfl (Or.inl rfl) rfl rfl rfl rfl (by omega) (Nat.le_of_ble_eq_true rfl) (Nat.le_of_ble_eq_true rfl) (Nat.le_of_ble_eq_true rfl) (fun x hx => absurd hx List.not_mem_nil) (q_nmL0 _) (q_nmS0 _) rfl (pos' := 3) (st' := []) (lI' := [(426, r8.1), (429, r8.2.1), (450, r8.2.2.1)]) (lE' := [(428, r8.2.2.2)]) rfl rfl rfl rfl ?_
  refine q_blk 2 [] (c' := q_kc (t, 0, m, z, N, ext, rx, L) I E 5 [some (.ref 450), some (.int x1), some (.int (0 : Int32))] [] [(426, r8.1), (429, r8.2.1), (450, r8.2.2.1)] [(428, r8.2.2.2)]) ok_X7_readTest rfl q_cn ?_
  obtain ⟨r9, hr9, hf⟩ := q_bd hf
  refine lp_X7_readTest_L5_450 (I := q_ws I [(426, r8.1), (429, r8.2.1), (450, r8.2.2.1)]) (E := q_ws E [(428, r8.2.2.2)]) (Nat.le_of_ble_eq_true rfl) (Nat.le_of_ble_eq_true rfl) hq_readSingle hq_readTest hq_readValue hq_readSum 4096 hr9 ?_
  refine q_Jmrg (lI' := [(426, r9.1), (429, r9.2.1), (450, r9.2.2.1)]) (lE' := [(428, r9.2.2.2)]) rfl rfl ?_
  cases hf
  exact q_krv ok_X7_readTest rfl rfl (Nat.le_of_ble_eq_true rfl) (Nat.le_of_ble_eq_true rfl) ⟨rfl, q_hpe (q_fin [426, 429, 450] rfl) (q_fin [428] rfl)⟩
set_option maxHeartbeats 4000000 in
theorem ct_X7_readStep_450 {g : q_G} {t : Nat} {m : Nat} {z : Nat} {N : Nat} {ext : Nat → q_Sh} {rx : Nat → Nat → Option Nat} {L : Nat → Nat → Int64} {d : Nat} (hd : 11 ≤ d)  {I : Nat → Nat → Int32} {E : Nat → Nat → Option Nat} {T2 : Nat → Nat → Int32} {K2 : Nat → Nat → Option Nat} {x1 : Nat} {r0 : (Nat → Int32) × (Nat → Int32) × (Nat → Int32) × (Nat → Option Nat) × (Nat → Nat → Int32) × (Nat → Nat → Option Nat)} (hf : f_X7_readStep (I 426) (I 429) (I 450) (I 451) (I 452) (I 456) (E 428) (E 453) T2 K2 x1 = some r0) : q_Ct g m_X7_readStep d 0 0 [] [.ref 450, .ref x1] (q_hp (t, 0, m, z, N, ext, rx, L) (q_tW I 430 T2) (q_tW E 430 K2)) (fun o h' => o = .inl none ∧ h' = q_hp (t, 0, m, z, N, ext, rx, L) (q_ws (q_tW I 430 r0.2.2.2.2.1) [(426, r0.1), (429, r0.2.1), (450, r0.2.2.1)]) (q_ws (q_tW E 430 r0.2.2.2.2.2) [(428, r0.2.2.2.1)])) := by
  rw [f_X7_readStep] at hf
  refine q_Ct_of ok_X7_readStep (Nat.le_of_ble_eq_true rfl) ?_ _ rfl rfl
  change q_J g m_X7_readStep d 0 0 _ [] _ 0 0 (q_kc (t, 0, m, z, N, ext, rx, L) (q_tW I 430 T2) (q_tW E 430 K2) 0 [some (.ref 450), some (.ref x1), none] [] [] [])
  obtain ⟨ug1, hg1, hf⟩ := q_bd hf
  refine q_blf 4 [] (a := q_kc (t, 0, m, z, N, ext, rx, L) (q_tW I 430 T2) (q_tW E 430 K2) 10 [some (.ref 450), some (.ref x1), none] [] [] []) (b := q_kc (t, 0, m, z, N, ext, rx, L) (q_tW I 430 T2) (q_tW E 430 K2) 5 [some (.ref 450), some (.ref x1), none] [] [] []) (P := ((I 426) 4) < (20 : Int32)) ok_X7_readStep rfl q_cn (fun h1 => ?_) (fun h1 => ?_)
  · have hf := q_ip h1 hf
    refine q_blk 3 [] (c' := q_kc (t, 0, m, z, N, ext, rx, L) (q_tW I 430 T2) (q_tW E 430 K2) 13 [some (.ref 450), some (.ref x1), none] [.ref x1, .ref 426] [] []) ok_X7_readStep rfl q_cn ?_
    obtain ⟨r2, hr2, hf⟩ := q_bd hf
    obtain ⟨u3, hu4, hf⟩ := q_bd hf
    refine q_kVT (M2 := m_X6_addStep) (As := [.ref x1]) (b := 426) (v2 := some (.ref (430 + r2.1))) ok_X7_readStep ok_X6_addStep cv_X6_addStep (ct_X6_addStep_426 (d := 2) (Nat.le_refl _) hr2) rfl rfl (Or.inl rfl) rfl rfl rfl rfl (Nat.le_trans (Nat.le_of_ble_eq_true rfl) hd) (Nat.le_of_ble_eq_true rfl) (Nat.le_of_ble_eq_true rfl) (Nat.le_of_ble_eq_true rfl) (fun x hx => absurd hx List.not_mem_nil) (q_nmL0 _) (q_nmS0 _) rfl (pos' := 14) (st' := [.ref (430 + r2.1)]) (lI' := [(426, r2.2.1)]) (lE' := []) rfl rfl rfl rfl rfl rfl ?_
    refine q_blk 9 [] (c' := q_kc (t, 0, m, z, N, ext, rx, L) (q_tW I 430 r2.2.2.1) (q_tW E 430 r2.2.2.2) 23 [some (.ref 450), some (.ref x1), some (.ref (430 + r2.1))] [.ref 450, .ref (430 + r2.1)] [(426, r2.2.1), (450, (q_up (I 450) 3 (((I 450) 3) + (1 : Int32))))] []) ok_X7_readStep rfl q_cn ?_
    obtain ⟨r5, hr5, hf⟩ := q_bd hf
    refine q_kV (M2 := m_X7_readHook) (As := []) (b := 450) (v2 := some (.int r5.1)) ok_X7_readStep ok_X7_readHook cv_X7_readHook (ct_X7_readHook_450 (d := 3) (Nat.le_refl _) hr5) rfl rfl (Or.inl rfl) rfl rfl rfl rfl (Nat.le_trans (Nat.le_of_ble_eq_true rfl) hd) (Nat.le_of_ble_eq_true rfl) (Nat.le_of_ble_eq_true rfl) (Nat.le_of_ble_eq_true rfl) (fun x hx => absurd hx List.not_mem_nil) (q_nmL0 _) (q_nmS0 _) rfl (pos' := 24) (st' := [.int r5.1, .ref (430 + r2.1)]) (lI' := [(426, r2.2.1), (450, r5.2)]) (lE' := []) rfl rfl rfl rfl ?_
    refine q_kpT (pos' := 25) ok_X7_readStep rfl (q_t20_lt hu4) rfl rfl rfl rfl ?_
    refine q_blk 2 [] (c' := q_kc (t, 0, m, z, N, ext, rx, L) (q_tW I 430 (q_u2 r2.2.2.1 r2.1 1 r5.1)) (q_tW E 430 r2.2.2.2) 27 [some (.ref 450), some (.ref x1), some (.ref (430 + r2.1))] [.ref 9, .ref x1] [(426, r2.2.1), (450, r5.2)] []) ok_X7_readStep rfl q_cn ?_
    refine q_o_acmp_ne ok_X7_readStep rfl (q_e49_lt hg1) (Nat.lt_of_lt_of_le (Nat.lt_succ_self _) (Nat.le_of_ble_eq_true rfl)) (fun h6 => ?_) (fun h6 => ?_)
    · have hf := q_in h6 hf
      refine q_blk 2 [] (c' := q_kc (t, 0, m, z, N, ext, rx, L) (q_tW I 430 (q_u2 r2.2.2.1 r2.1 1 r5.1)) (q_tW E 430 r2.2.2.2) 53 [some (.ref 450), some (.ref x1), some (.ref (430 + r2.1))] [.ref 10, .ref x1] [(426, r2.2.1), (450, r5.2)] []) ok_X7_readStep rfl q_cn ?_
      refine q_o_acmp_ne ok_X7_readStep rfl (q_e49_lt hg1) (Nat.lt_of_lt_of_le (Nat.lt_succ_self _) (Nat.le_of_ble_eq_true rfl)) (fun h15 => ?_) (fun h15 => ?_)
      · have hf := q_in h15 hf
        refine q_blk 2 [] (c' := q_kc (t, 0, m, z, N, ext, rx, L) (q_tW I 430 (q_u2 r2.2.2.1 r2.1 1 r5.1)) (q_tW E 430 r2.2.2.2) 70 [some (.ref 450), some (.ref x1), some (.ref (430 + r2.1))] [.ref 11, .ref x1] [(426, r2.2.1), (450, r5.2)] []) ok_X7_readStep rfl q_cn ?_
        refine q_o_acmp_ne ok_X7_readStep rfl (q_e49_lt hg1) (Nat.lt_of_lt_of_le (Nat.lt_succ_self _) (Nat.le_of_ble_eq_true rfl)) (fun h24 => ?_) (fun h24 => ?_)
        · have hf := q_in h24 hf
          refine q_blk 2 [] (c' := q_kc (t, 0, m, z, N, ext, rx, L) (q_tW I 430 (q_u2 r2.2.2.1 r2.1 1 r5.1)) (q_tW E 430 r2.2.2.2) 79 [some (.ref 450), some (.ref x1), some (.ref (430 + r2.1))] [.ref 12, .ref x1] [(426, r2.2.1), (450, r5.2)] []) ok_X7_readStep rfl q_cn ?_
          refine q_o_acmp_ne ok_X7_readStep rfl (q_e49_lt hg1) (Nat.lt_of_lt_of_le (Nat.lt_succ_self _) (Nat.le_of_ble_eq_true rfl)) (fun h31 => ?_) (fun h31 => ?_)
          · have hf := q_in h31 hf
            refine q_blk 1 [] (c' := q_kc (t, 0, m, z, N, ext, rx, L) (q_tW I 430 (q_u2 r2.2.2.1 r2.1 1 r5.1)) (q_tW E 430 r2.2.2.2) 94 [some (.ref 450), some (.ref x1), some (.ref (430 + r2.1))] [.ref 450] [(426, r2.2.1), (450, r5.2)] []) ok_X7_readStep rfl q_cn ?_
            obtain ⟨r40, hr40, hf⟩ := q_bd hf
            obtain ⟨u41, hu42, hf⟩ := q_bd hf
            refine q_kV (M2 := m_X7_sign) (As := []) (b := 450) (v2 := some (.ref r40)) ok_X7_readStep ok_X7_sign cv_X7_sign (ct_X7_sign_450 (d := 2) (Nat.le_refl _) hr40) rfl rfl (Or.inl rfl) rfl rfl rfl rfl (Nat.le_trans (Nat.le_of_ble_eq_true rfl) hd) (Nat.le_of_ble_eq_true rfl) (Nat.le_of_ble_eq_true rfl) (Nat.le_of_ble_eq_true rfl) (fun x hx => absurd hx List.not_mem_nil) (q_nmL0 _) (q_nmS0 _) rfl (pos' := 95) (st' := [.ref r40]) (lI' := [(426, r2.2.1), (450, r5.2)]) (lE' := []) rfl rfl rfl rfl ?_
            refine q_blk 1 [] (c' := q_kc (t, 0, m, z, N, ext, rx, L) (q_tW I 430 (q_u2 r2.2.2.1 r2.1 1 r5.1)) (q_tW E 430 r2.2.2.2) 96 [some (.ref 450), some (.ref x1), some (.ref (430 + r2.1))] [.ref 19, .ref r40] [(426, r2.2.1), (450, r5.2)] []) ok_X7_readStep rfl q_cn ?_
            refine q_o_acmp_ne ok_X7_readStep rfl (q_e49_lt hu42) (Nat.lt_of_lt_of_le (Nat.lt_succ_self _) (Nat.le_of_ble_eq_true rfl)) (fun h43 => ?_) (fun h43 => ?_)
            · have hf := q_in h43 hf
              cases hf
              exact q_krv ok_X7_readStep rfl rfl (Nat.le_of_ble_eq_true rfl) (Nat.le_of_ble_eq_true rfl) ⟨rfl, q_hpe (q_fin [426, 429, 450] rfl) (q_fin [428] rfl)⟩
            · have hf := q_ip h43 hf
              refine q_blk 10 [] (c' := q_kc (t, 0, m, z, N, ext, rx, L) (q_tW I 430 (q_u2 r2.2.2.1 r2.1 1 r5.1)) (q_tW E 430 r2.2.2.2) 107 [some (.ref 450), some (.ref x1), some (.ref (430 + r2.1))] [.int (r2.2.1 5), .ref (430 + r2.1)] [(426, r2.2.1), (450, (q_up r5.2 3 ((r5.2 3) + (1 : Int32))))] []) ok_X7_readStep rfl q_cn ?_
              refine q_kpT (pos' := 108) ok_X7_readStep rfl (q_t20_lt hu4) rfl rfl rfl rfl ?_
              refine q_blk 2 [] (c' := q_kc (t, 0, m, z, N, ext, rx, L) (q_tW I 430 (q_u2 (q_u2 r2.2.2.1 r2.1 1 r5.1) r2.1 6 (r2.2.1 5))) (q_tW E 430 r2.2.2.2) 110 [some (.ref 450), some (.ref x1), some (.ref (430 + r2.1))] [.int (0 : Int32), .ref 450] [(426, r2.2.1), (450, (q_up r5.2 3 ((r5.2 3) + (1 : Int32))))] []) ok_X7_readStep rfl q_cn ?_
              obtain ⟨r44, hr44, hf⟩ := q_bd hf
              refine q_kV (M2 := m_X7_readTest) (As := [.int (0 : Int32)]) (b := 450) (v2 := none) ok_X7_readStep ok_X7_readTest cv_X7_readTest (ct_X7_readTest_450 hq_readSingle hq_readTest hq_readValue hq_readSum hr44) rfl rfl (Or.inl rfl) rfl rfl rfl rfl (Nat.le_trans (Nat.le_of_ble_eq_true rfl) hd) (Nat.le_of_ble_eq_true rfl) (Nat.le_of_ble_eq_true rfl) (Nat.le_of_ble_eq_true rfl) (fun x hx => absurd hx List.not_mem_nil) (q_nmL0 _) (q_nmS0 _) rfl (pos' := 111) (st' := []) (lI' := [(426, r44.1), (429, r44.2.1), (450, r44.2.2.1)]) (lE' := [(428, r44.2.2.2)]) rfl rfl rfl rfl ?_
              refine q_blk 4 [] (c' := q_kc (t, 0, m, z, N, ext, rx, L) (q_tW I 430 (q_u2 (q_u2 r2.2.2.1 r2.1 1 r5.1) r2.1 6 (r2.2.1 5))) (q_tW E 430 r2.2.2.2) 115 [some (.ref 450), some (.ref x1), some (.ref (430 + r2.1))] [.int (r44.1 5), .ref (430 + r2.1)] [(426, r44.1), (429, r44.2.1), (450, r44.2.2.1)] [(428, r44.2.2.2)]) ok_X7_readStep rfl q_cn ?_
              refine q_kpT (pos' := 116) ok_X7_readStep rfl (q_t20_lt hu4) rfl rfl rfl rfl ?_
              cases hf
              exact q_krv ok_X7_readStep rfl rfl (Nat.le_of_ble_eq_true rfl) (Nat.le_of_ble_eq_true rfl) ⟨rfl, q_hpe (q_fin [426, 429, 450] rfl) (q_fin [428] rfl)⟩
          · have hf := q_ip h31 hf
            refine q_blk 2 [] (c' := q_kc (t, 0, m, z, N, ext, rx, L) (q_tW I 430 (q_u2 r2.2.2.1 r2.1 1 r5.1)) (q_tW E 430 r2.2.2.2) 82 [some (.ref 450), some (.ref x1), some (.ref (430 + r2.1))] [.ref 17, .ref 450] [(426, r2.2.1), (450, r5.2)] []) ok_X7_readStep rfl q_cn ?_
            obtain ⟨r32, hr32, hf⟩ := q_bd hf
            refine q_kV (M2 := m_X7_take) (As := [.ref 17]) (b := 450) (v2 := some (.int (q_bz r32.1))) ok_X7_readStep ok_X7_take cv_X7_take (ct_X7_take_450 (d := 3) (Nat.le_refl _) hr32) rfl rfl (Or.inl rfl) rfl rfl rfl rfl (Nat.le_trans (Nat.le_of_ble_eq_true rfl) hd) (Nat.le_of_ble_eq_true rfl) (Nat.le_of_ble_eq_true rfl) (Nat.le_of_ble_eq_true rfl) (fun x hx => absurd hx List.not_mem_nil) (q_nmL0 _) (q_nmS0 _) rfl (pos' := 83) (st' := [.int (q_bz r32.1)]) (lI' := [(426, r2.2.1), (450, r32.2)]) (lE' := []) rfl rfl rfl rfl ?_
            refine q_blk 3 [] (c' := q_kc (t, 0, m, z, N, ext, rx, L) (q_tW I 430 (q_u2 r2.2.2.1 r2.1 1 r5.1)) (q_tW E 430 r2.2.2.2) 86 [some (.ref 450), some (.ref x1), some (.ref (430 + r2.1))] [.ref 450, .ref (430 + r2.1)] [(426, r2.2.1), (450, r32.2)] []) ok_X7_readStep rfl q_cn ?_
            obtain ⟨r33, hr33, hf⟩ := q_bd hf
            refine q_kV (M2 := m_X7_readHook) (As := []) (b := 450) (v2 := some (.int r33.1)) ok_X7_readStep ok_X7_readHook cv_X7_readHook (ct_X7_readHook_450 (d := 3) (Nat.le_refl _) hr33) rfl rfl (Or.inl rfl) rfl rfl rfl rfl (Nat.le_trans (Nat.le_of_ble_eq_true rfl) hd) (Nat.le_of_ble_eq_true rfl) (Nat.le_of_ble_eq_true rfl) (Nat.le_of_ble_eq_true rfl) (fun x hx => absurd hx List.not_mem_nil) (q_nmL0 _) (q_nmS0 _) rfl (pos' := 87) (st' := [.int r33.1, .ref (430 + r2.1)]) (lI' := [(426, r2.2.1), (450, r33.2)]) (lE' := []) rfl rfl rfl rfl ?_
            refine q_kpT (pos' := 88) ok_X7_readStep rfl (q_t20_lt hu4) rfl rfl rfl rfl ?_
            refine q_blk 3 [] (c' := q_kc (t, 0, m, z, N, ext, rx, L) (q_tW I 430 (q_u2 (q_u2 r2.2.2.1 r2.1 1 r5.1) r2.1 2 r33.1)) (q_tW E 430 r2.2.2.2) 91 [some (.ref 450), some (.ref x1), some (.ref (430 + r2.1))] [.ref 15, .ref 450, .ref (430 + r2.1)] [(426, r2.2.1), (450, r33.2)] []) ok_X7_readStep rfl q_cn ?_
            obtain ⟨r34, hr34, hf⟩ := q_bd hf
            refine q_kV (M2 := m_X7_readRope) (As := [.ref 15]) (b := 450) (v2 := some (.int r34.1)) ok_X7_readStep ok_X7_readRope cv_X7_readRope (ct_X7_readRope_450 (d := 5) (Nat.le_refl _) hr34) rfl rfl (Or.inl rfl) rfl rfl rfl rfl (Nat.le_trans (Nat.le_of_ble_eq_true rfl) hd) (Nat.le_of_ble_eq_true rfl) (Nat.le_of_ble_eq_true rfl) (Nat.le_of_ble_eq_true rfl) (fun x hx => absurd hx List.not_mem_nil) (q_nmL0 _) (q_nmS0 _) rfl (pos' := 92) (st' := [.int r34.1, .ref (430 + r2.1)]) (lI' := [(426, r2.2.1), (450, r34.2)]) (lE' := []) rfl rfl rfl rfl ?_
            refine q_kpT (pos' := 93) ok_X7_readStep rfl (q_t20_lt hu4) rfl rfl rfl rfl ?_
            refine q_blk 1 [] (c' := q_kc (t, 0, m, z, N, ext, rx, L) (q_tW I 430 (q_u2 (q_u2 (q_u2 r2.2.2.1 r2.1 1 r5.1) r2.1 2 r33.1) r2.1 3 r34.1)) (q_tW E 430 r2.2.2.2) 94 [some (.ref 450), some (.ref x1), some (.ref (430 + r2.1))] [.ref 450] [(426, r2.2.1), (450, r34.2)] []) ok_X7_readStep rfl q_cn ?_
            obtain ⟨r35, hr35, hf⟩ := q_bd hf
            obtain ⟨u36, hu37, hf⟩ := q_bd hf
            refine q_kV (M2 := m_X7_sign) (As := []) (b := 450) (v2 := some (.ref r35)) ok_X7_readStep ok_X7_sign cv_X7_sign (ct_X7_sign_450 (d := 2) (Nat.le_refl _) hr35) rfl rfl (Or.inl rfl) rfl rfl rfl rfl (Nat.le_trans (Nat.le_of_ble_eq_true rfl) hd) (Nat.le_of_ble_eq_true rfl) (Nat.le_of_ble_eq_true rfl) (Nat.le_of_ble_eq_true rfl) (fun x hx => absurd hx List.not_mem_nil) (q_nmL0 _) (q_nmS0 _) rfl (pos' := 95) (st' := [.ref r35]) (lI' := [(426, r2.2.1), (450, r34.2)]) (lE' := []) rfl rfl rfl rfl ?_
            refine q_blk 1 [] (c' := q_kc (t, 0, m, z, N, ext, rx, L) (q_tW I 430 (q_u2 (q_u2 (q_u2 r2.2.2.1 r2.1 1 r5.1) r2.1 2 r33.1) r2.1 3 r34.1)) (q_tW E 430 r2.2.2.2) 96 [some (.ref 450), some (.ref x1), some (.ref (430 + r2.1))] [.ref 19, .ref r35] [(426, r2.2.1), (450, r34.2)] []) ok_X7_readStep rfl q_cn ?_
            refine q_o_acmp_ne ok_X7_readStep rfl (q_e49_lt hu37) (Nat.lt_of_lt_of_le (Nat.lt_succ_self _) (Nat.le_of_ble_eq_true rfl)) (fun h38 => ?_) (fun h38 => ?_)
            · have hf := q_in h38 hf
              cases hf
              exact q_krv ok_X7_readStep rfl rfl (Nat.le_of_ble_eq_true rfl) (Nat.le_of_ble_eq_true rfl) ⟨rfl, q_hpe (q_fin [426, 429, 450] rfl) (q_fin [428] rfl)⟩
            · have hf := q_ip h38 hf
              refine q_blk 10 [] (c' := q_kc (t, 0, m, z, N, ext, rx, L) (q_tW I 430 (q_u2 (q_u2 (q_u2 r2.2.2.1 r2.1 1 r5.1) r2.1 2 r33.1) r2.1 3 r34.1)) (q_tW E 430 r2.2.2.2) 107 [some (.ref 450), some (.ref x1), some (.ref (430 + r2.1))] [.int (r2.2.1 5), .ref (430 + r2.1)] [(426, r2.2.1), (450, (q_up r34.2 3 ((r34.2 3) + (1 : Int32))))] []) ok_X7_readStep rfl q_cn ?_
              refine q_kpT (pos' := 108) ok_X7_readStep rfl (q_t20_lt hu4) rfl rfl rfl rfl ?_
              refine q_blk 2 [] (c' := q_kc (t, 0, m, z, N, ext, rx, L) (q_tW I 430 (q_u2 (q_u2 (q_u2 (q_u2 r2.2.2.1 r2.1 1 r5.1) r2.1 2 r33.1) r2.1 3 r34.1) r2.1 6 (r2.2.1 5))) (q_tW E 430 r2.2.2.2) 110 [some (.ref 450), some (.ref x1), some (.ref (430 + r2.1))] [.int (0 : Int32), .ref 450] [(426, r2.2.1), (450, (q_up r34.2 3 ((r34.2 3) + (1 : Int32))))] []) ok_X7_readStep rfl q_cn ?_
              obtain ⟨r39, hr39, hf⟩ := q_bd hf
              refine q_kV (M2 := m_X7_readTest) (As := [.int (0 : Int32)]) (b := 450) (v2 := none) ok_X7_readStep ok_X7_readTest cv_X7_readTest (ct_X7_readTest_450 hq_readSingle hq_readTest hq_readValue hq_readSum hr39) rfl rfl (Or.inl rfl) rfl rfl rfl rfl (Nat.le_trans (Nat.le_of_ble_eq_true rfl) hd) (Nat.le_of_ble_eq_true rfl) (Nat.le_of_ble_eq_true rfl) (Nat.le_of_ble_eq_true rfl) (fun x hx => absurd hx List.not_mem_nil) (q_nmL0 _) (q_nmS0 _) rfl (pos' := 111) (st' := []) (lI' := [(426, r39.1), (429, r39.2.1), (450, r39.2.2.1)]) (lE' := [(428, r39.2.2.2)]) rfl rfl rfl rfl ?_
              refine q_blk 4 [] (c' := q_kc (t, 0, m, z, N, ext, rx, L) (q_tW I 430 (q_u2 (q_u2 (q_u2 (q_u2 r2.2.2.1 r2.1 1 r5.1) r2.1 2 r33.1) r2.1 3 r34.1) r2.1 6 (r2.2.1 5))) (q_tW E 430 r2.2.2.2) 115 [some (.ref 450), some (.ref x1), some (.ref (430 + r2.1))] [.int (r39.1 5), .ref (430 + r2.1)] [(426, r39.1), (429, r39.2.1), (450, r39.2.2.1)] [(428, r39.2.2.2)]) ok_X7_readStep rfl q_cn ?_
              refine q_kpT (pos' := 116) ok_X7_readStep rfl (q_t20_lt hu4) rfl rfl rfl rfl ?_
              cases hf
              exact q_krv ok_X7_readStep rfl rfl (Nat.le_of_ble_eq_true rfl) (Nat.le_of_ble_eq_true rfl) ⟨rfl, q_hpe (q_fin [426, 429, 450] rfl) (q_fin [428] rfl)⟩
        · have hf := q_ip h24 hf
          refine q_blk 3 [] (c' := q_kc (t, 0, m, z, N, ext, rx, L) (q_tW I 430 (q_u2 r2.2.2.1 r2.1 1 r5.1)) (q_tW E 430 r2.2.2.2) 74 [some (.ref 450), some (.ref x1), some (.ref (430 + r2.1))] [.ref 15, .ref 450, .ref (430 + r2.1)] [(426, r2.2.1), (450, r5.2)] []) ok_X7_readStep rfl q_cn ?_
          obtain ⟨r25, hr25, hf⟩ := q_bd hf
          refine q_kV (M2 := m_X7_readRope) (As := [.ref 15]) (b := 450) (v2 := some (.int r25.1)) ok_X7_readStep ok_X7_readRope cv_X7_readRope (ct_X7_readRope_450 (d := 5) (Nat.le_refl _) hr25) rfl rfl (Or.inl rfl) rfl rfl rfl rfl (Nat.le_trans (Nat.le_of_ble_eq_true rfl) hd) (Nat.le_of_ble_eq_true rfl) (Nat.le_of_ble_eq_true rfl) (Nat.le_of_ble_eq_true rfl) (fun x hx => absurd hx List.not_mem_nil) (q_nmL0 _) (q_nmS0 _) rfl (pos' := 75) (st' := [.int r25.1, .ref (430 + r2.1)]) (lI' := [(426, r2.2.1), (450, r25.2)]) (lE' := []) rfl rfl rfl rfl ?_
          refine q_kpT (pos' := 76) ok_X7_readStep rfl (q_t20_lt hu4) rfl rfl rfl rfl ?_
          refine q_blk 2 [] (c' := q_kc (t, 0, m, z, N, ext, rx, L) (q_tW I 430 (q_u2 (q_u2 r2.2.2.1 r2.1 1 r5.1) r2.1 3 r25.1)) (q_tW E 430 r2.2.2.2) 94 [some (.ref 450), some (.ref x1), some (.ref (430 + r2.1))] [.ref 450] [(426, r2.2.1), (450, r25.2)] []) ok_X7_readStep rfl q_cn ?_
          obtain ⟨r26, hr26, hf⟩ := q_bd hf
          obtain ⟨u27, hu28, hf⟩ := q_bd hf
          refine q_kV (M2 := m_X7_sign) (As := []) (b := 450) (v2 := some (.ref r26)) ok_X7_readStep ok_X7_sign cv_X7_sign (ct_X7_sign_450 (d := 2) (Nat.le_refl _) hr26) rfl rfl (Or.inl rfl) rfl rfl rfl rfl (Nat.le_trans (Nat.le_of_ble_eq_true rfl) hd) (Nat.le_of_ble_eq_true rfl) (Nat.le_of_ble_eq_true rfl) (Nat.le_of_ble_eq_true rfl) (fun x hx => absurd hx List.not_mem_nil) (q_nmL0 _) (q_nmS0 _) rfl (pos' := 95) (st' := [.ref r26]) (lI' := [(426, r2.2.1), (450, r25.2)]) (lE' := []) rfl rfl rfl rfl ?_
          refine q_blk 1 [] (c' := q_kc (t, 0, m, z, N, ext, rx, L) (q_tW I 430 (q_u2 (q_u2 r2.2.2.1 r2.1 1 r5.1) r2.1 3 r25.1)) (q_tW E 430 r2.2.2.2) 96 [some (.ref 450), some (.ref x1), some (.ref (430 + r2.1))] [.ref 19, .ref r26] [(426, r2.2.1), (450, r25.2)] []) ok_X7_readStep rfl q_cn ?_
          refine q_o_acmp_ne ok_X7_readStep rfl (q_e49_lt hu28) (Nat.lt_of_lt_of_le (Nat.lt_succ_self _) (Nat.le_of_ble_eq_true rfl)) (fun h29 => ?_) (fun h29 => ?_)
          · have hf := q_in h29 hf
            cases hf
            exact q_krv ok_X7_readStep rfl rfl (Nat.le_of_ble_eq_true rfl) (Nat.le_of_ble_eq_true rfl) ⟨rfl, q_hpe (q_fin [426, 429, 450] rfl) (q_fin [428] rfl)⟩
          · have hf := q_ip h29 hf
            refine q_blk 10 [] (c' := q_kc (t, 0, m, z, N, ext, rx, L) (q_tW I 430 (q_u2 (q_u2 r2.2.2.1 r2.1 1 r5.1) r2.1 3 r25.1)) (q_tW E 430 r2.2.2.2) 107 [some (.ref 450), some (.ref x1), some (.ref (430 + r2.1))] [.int (r2.2.1 5), .ref (430 + r2.1)] [(426, r2.2.1), (450, (q_up r25.2 3 ((r25.2 3) + (1 : Int32))))] []) ok_X7_readStep rfl q_cn ?_
            refine q_kpT (pos' := 108) ok_X7_readStep rfl (q_t20_lt hu4) rfl rfl rfl rfl ?_
            refine q_blk 2 [] (c' := q_kc (t, 0, m, z, N, ext, rx, L) (q_tW I 430 (q_u2 (q_u2 (q_u2 r2.2.2.1 r2.1 1 r5.1) r2.1 3 r25.1) r2.1 6 (r2.2.1 5))) (q_tW E 430 r2.2.2.2) 110 [some (.ref 450), some (.ref x1), some (.ref (430 + r2.1))] [.int (0 : Int32), .ref 450] [(426, r2.2.1), (450, (q_up r25.2 3 ((r25.2 3) + (1 : Int32))))] []) ok_X7_readStep rfl q_cn ?_
            obtain ⟨r30, hr30, hf⟩ := q_bd hf
            refine q_kV (M2 := m_X7_readTest) (As := [.int (0 : Int32)]) (b := 450) (v2 := none) ok_X7_readStep ok_X7_readTest cv_X7_readTest (ct_X7_readTest_450 hq_readSingle hq_readTest hq_readValue hq_readSum hr30) rfl rfl (Or.inl rfl) rfl rfl rfl rfl (Nat.le_trans (Nat.le_of_ble_eq_true rfl) hd) (Nat.le_of_ble_eq_true rfl) (Nat.le_of_ble_eq_true rfl) (Nat.le_of_ble_eq_true rfl) (fun x hx => absurd hx List.not_mem_nil) (q_nmL0 _) (q_nmS0 _) rfl (pos' := 111) (st' := []) (lI' := [(426, r30.1), (429, r30.2.1), (450, r30.2.2.1)]) (lE' := [(428, r30.2.2.2)]) rfl rfl rfl rfl ?_
            refine q_blk 4 [] (c' := q_kc (t, 0, m, z, N, ext, rx, L) (q_tW I 430 (q_u2 (q_u2 (q_u2 r2.2.2.1 r2.1 1 r5.1) r2.1 3 r25.1) r2.1 6 (r2.2.1 5))) (q_tW E 430 r2.2.2.2) 115 [some (.ref 450), some (.ref x1), some (.ref (430 + r2.1))] [.int (r30.1 5), .ref (430 + r2.1)] [(426, r30.1), (429, r30.2.1), (450, r30.2.2.1)] [(428, r30.2.2.2)]) ok_X7_readStep rfl q_cn ?_
            refine q_kpT (pos' := 116) ok_X7_readStep rfl (q_t20_lt hu4) rfl rfl rfl rfl ?_
            cases hf
            exact q_krv ok_X7_readStep rfl rfl (Nat.le_of_ble_eq_true rfl) (Nat.le_of_ble_eq_true rfl) ⟨rfl, q_hpe (q_fin [426, 429, 450] rfl) (q_fin [428] rfl)⟩
      · have hf := q_ip h15 hf
        refine q_blk 3 [] (c' := q_kc (t, 0, m, z, N, ext, rx, L) (q_tW I 430 (q_u2 r2.2.2.1 r2.1 1 r5.1)) (q_tW E 430 r2.2.2.2) 57 [some (.ref 450), some (.ref x1), some (.ref (430 + r2.1))] [.ref 15, .ref 450, .ref (430 + r2.1)] [(426, r2.2.1), (450, r5.2)] []) ok_X7_readStep rfl q_cn ?_
        obtain ⟨r16, hr16, hf⟩ := q_bd hf
        refine q_kV (M2 := m_X7_readRope) (As := [.ref 15]) (b := 450) (v2 := some (.int r16.1)) ok_X7_readStep ok_X7_readRope cv_X7_readRope (ct_X7_readRope_450 (d := 5) (Nat.le_refl _) hr16) rfl rfl (Or.inl rfl) rfl rfl rfl rfl (Nat.le_trans (Nat.le_of_ble_eq_true rfl) hd) (Nat.le_of_ble_eq_true rfl) (Nat.le_of_ble_eq_true rfl) (Nat.le_of_ble_eq_true rfl) (fun x hx => absurd hx List.not_mem_nil) (q_nmL0 _) (q_nmS0 _) rfl (pos' := 58) (st' := [.int r16.1, .ref (430 + r2.1)]) (lI' := [(426, r2.2.1), (450, r16.2)]) (lE' := []) rfl rfl rfl rfl ?_
        refine q_kpT (pos' := 59) ok_X7_readStep rfl (q_t20_lt hu4) rfl rfl rfl rfl ?_
        refine q_blk 2 [] (c' := q_kc (t, 0, m, z, N, ext, rx, L) (q_tW I 430 (q_u2 (q_u2 r2.2.2.1 r2.1 1 r5.1) r2.1 3 r16.1)) (q_tW E 430 r2.2.2.2) 61 [some (.ref 450), some (.ref x1), some (.ref (430 + r2.1))] [.ref 16, .ref 450] [(426, r2.2.1), (450, r16.2)] []) ok_X7_readStep rfl q_cn ?_
        obtain ⟨r17, hr17, hf⟩ := q_bd hf
        refine q_kV (M2 := m_X7_take) (As := [.ref 16]) (b := 450) (v2 := some (.int (q_bz r17.1))) ok_X7_readStep ok_X7_take cv_X7_take (ct_X7_take_450 (d := 3) (Nat.le_refl _) hr17) rfl rfl (Or.inl rfl) rfl rfl rfl rfl (Nat.le_trans (Nat.le_of_ble_eq_true rfl) hd) (Nat.le_of_ble_eq_true rfl) (Nat.le_of_ble_eq_true rfl) (Nat.le_of_ble_eq_true rfl) (fun x hx => absurd hx List.not_mem_nil) (q_nmL0 _) (q_nmS0 _) rfl (pos' := 62) (st' := [.int (q_bz r17.1)]) (lI' := [(426, r2.2.1), (450, r17.2)]) (lE' := []) rfl rfl rfl rfl ?_
        refine q_blk 3 [] (c' := q_kc (t, 0, m, z, N, ext, rx, L) (q_tW I 430 (q_u2 (q_u2 r2.2.2.1 r2.1 1 r5.1) r2.1 3 r16.1)) (q_tW E 430 r2.2.2.2) 65 [some (.ref 450), some (.ref x1), some (.ref (430 + r2.1))] [.ref 450, .ref (430 + r2.1)] [(426, r2.2.1), (450, r17.2)] []) ok_X7_readStep rfl q_cn ?_
        obtain ⟨r18, hr18, hf⟩ := q_bd hf
        refine q_kV (M2 := m_X7_readHook) (As := []) (b := 450) (v2 := some (.int r18.1)) ok_X7_readStep ok_X7_readHook cv_X7_readHook (ct_X7_readHook_450 (d := 3) (Nat.le_refl _) hr18) rfl rfl (Or.inl rfl) rfl rfl rfl rfl (Nat.le_trans (Nat.le_of_ble_eq_true rfl) hd) (Nat.le_of_ble_eq_true rfl) (Nat.le_of_ble_eq_true rfl) (Nat.le_of_ble_eq_true rfl) (fun x hx => absurd hx List.not_mem_nil) (q_nmL0 _) (q_nmS0 _) rfl (pos' := 66) (st' := [.int r18.1, .ref (430 + r2.1)]) (lI' := [(426, r2.2.1), (450, r18.2)]) (lE' := []) rfl rfl rfl rfl ?_
        refine q_kpT (pos' := 67) ok_X7_readStep rfl (q_t20_lt hu4) rfl rfl rfl rfl ?_
        refine q_blk 2 [] (c' := q_kc (t, 0, m, z, N, ext, rx, L) (q_tW I 430 (q_u2 (q_u2 (q_u2 r2.2.2.1 r2.1 1 r5.1) r2.1 3 r16.1) r2.1 2 r18.1)) (q_tW E 430 r2.2.2.2) 94 [some (.ref 450), some (.ref x1), some (.ref (430 + r2.1))] [.ref 450] [(426, r2.2.1), (450, r18.2)] []) ok_X7_readStep rfl q_cn ?_
        obtain ⟨r19, hr19, hf⟩ := q_bd hf
        obtain ⟨u20, hu21, hf⟩ := q_bd hf
        refine q_kV (M2 := m_X7_sign) (As := []) (b := 450) (v2 := some (.ref r19)) ok_X7_readStep ok_X7_sign cv_X7_sign (ct_X7_sign_450 (d := 2) (Nat.le_refl _) hr19) rfl rfl (Or.inl rfl) rfl rfl rfl rfl (Nat.le_trans (Nat.le_of_ble_eq_true rfl) hd) (Nat.le_of_ble_eq_true rfl) (Nat.le_of_ble_eq_true rfl) (Nat.le_of_ble_eq_true rfl) (fun x hx => absurd hx List.not_mem_nil) (q_nmL0 _) (q_nmS0 _) rfl (pos' := 95) (st' := [.ref r19]) (lI' := [(426, r2.2.1), (450, r18.2)]) (lE' := []) rfl rfl rfl rfl ?_
        refine q_blk 1 [] (c' := q_kc (t, 0, m, z, N, ext, rx, L) (q_tW I 430 (q_u2 (q_u2 (q_u2 r2.2.2.1 r2.1 1 r5.1) r2.1 3 r16.1) r2.1 2 r18.1)) (q_tW E 430 r2.2.2.2) 96 [some (.ref 450), some (.ref x1), some (.ref (430 + r2.1))] [.ref 19, .ref r19] [(426, r2.2.1), (450, r18.2)] []) ok_X7_readStep rfl q_cn ?_
        refine q_o_acmp_ne ok_X7_readStep rfl (q_e49_lt hu21) (Nat.lt_of_lt_of_le (Nat.lt_succ_self _) (Nat.le_of_ble_eq_true rfl)) (fun h22 => ?_) (fun h22 => ?_)
        · have hf := q_in h22 hf
          cases hf
          exact q_krv ok_X7_readStep rfl rfl (Nat.le_of_ble_eq_true rfl) (Nat.le_of_ble_eq_true rfl) ⟨rfl, q_hpe (q_fin [426, 429, 450] rfl) (q_fin [428] rfl)⟩
        · have hf := q_ip h22 hf
          refine q_blk 10 [] (c' := q_kc (t, 0, m, z, N, ext, rx, L) (q_tW I 430 (q_u2 (q_u2 (q_u2 r2.2.2.1 r2.1 1 r5.1) r2.1 3 r16.1) r2.1 2 r18.1)) (q_tW E 430 r2.2.2.2) 107 [some (.ref 450), some (.ref x1), some (.ref (430 + r2.1))] [.int (r2.2.1 5), .ref (430 + r2.1)] [(426, r2.2.1), (450, (q_up r18.2 3 ((r18.2 3) + (1 : Int32))))] []) ok_X7_readStep rfl q_cn ?_
          refine q_kpT (pos' := 108) ok_X7_readStep rfl (q_t20_lt hu4) rfl rfl rfl rfl ?_
          refine q_blk 2 [] (c' := q_kc (t, 0, m, z, N, ext, rx, L) (q_tW I 430 (q_u2 (q_u2 (q_u2 (q_u2 r2.2.2.1 r2.1 1 r5.1) r2.1 3 r16.1) r2.1 2 r18.1) r2.1 6 (r2.2.1 5))) (q_tW E 430 r2.2.2.2) 110 [some (.ref 450), some (.ref x1), some (.ref (430 + r2.1))] [.int (0 : Int32), .ref 450] [(426, r2.2.1), (450, (q_up r18.2 3 ((r18.2 3) + (1 : Int32))))] []) ok_X7_readStep rfl q_cn ?_
          obtain ⟨r23, hr23, hf⟩ := q_bd hf
          refine q_kV (M2 := m_X7_readTest) (As := [.int (0 : Int32)]) (b := 450) (v2 := none) ok_X7_readStep ok_X7_readTest cv_X7_readTest (ct_X7_readTest_450 hq_readSingle hq_readTest hq_readValue hq_readSum hr23) rfl rfl (Or.inl rfl) rfl rfl rfl rfl (Nat.le_trans (Nat.le_of_ble_eq_true rfl) hd) (Nat.le_of_ble_eq_true rfl) (Nat.le_of_ble_eq_true rfl) (Nat.le_of_ble_eq_true rfl) (fun x hx => absurd hx List.not_mem_nil) (q_nmL0 _) (q_nmS0 _) rfl (pos' := 111) (st' := []) (lI' := [(426, r23.1), (429, r23.2.1), (450, r23.2.2.1)]) (lE' := [(428, r23.2.2.2)]) rfl rfl rfl rfl ?_
          refine q_blk 4 [] (c' := q_kc (t, 0, m, z, N, ext, rx, L) (q_tW I 430 (q_u2 (q_u2 (q_u2 (q_u2 r2.2.2.1 r2.1 1 r5.1) r2.1 3 r16.1) r2.1 2 r18.1) r2.1 6 (r2.2.1 5))) (q_tW E 430 r2.2.2.2) 115 [some (.ref 450), some (.ref x1), some (.ref (430 + r2.1))] [.int (r23.1 5), .ref (430 + r2.1)] [(426, r23.1), (429, r23.2.1), (450, r23.2.2.1)] [(428, r23.2.2.2)]) ok_X7_readStep rfl q_cn ?_
          refine q_kpT (pos' := 116) ok_X7_readStep rfl (q_t20_lt hu4) rfl rfl rfl rfl ?_
          cases hf
          exact q_krv ok_X7_readStep rfl rfl (Nat.le_of_ble_eq_true rfl) (Nat.le_of_ble_eq_true rfl) ⟨rfl, q_hpe (q_fin [426, 429, 450] rfl) (q_fin [428] rfl)⟩
    · have hf := q_ip h6 hf
      refine q_blk 2 [] (c' := q_kc (t, 0, m, z, N, ext, rx, L) (q_tW I 430 (q_u2 r2.2.2.1 r2.1 1 r5.1)) (q_tW E 430 r2.2.2.2) 30 [some (.ref 450), some (.ref x1), some (.ref (430 + r2.1))] [.ref 25, .ref 450] [(426, r2.2.1), (450, r5.2)] []) ok_X7_readStep rfl q_cn ?_
      obtain ⟨r7, hr7, hf⟩ := q_bd hf
      refine q_kV (M2 := m_X7_take) (As := [.ref 25]) (b := 450) (v2 := some (.int (q_bz r7.1))) ok_X7_readStep ok_X7_take cv_X7_take (ct_X7_take_450 (d := 3) (Nat.le_refl _) hr7) rfl rfl (Or.inl rfl) rfl rfl rfl rfl (Nat.le_trans (Nat.le_of_ble_eq_true rfl) hd) (Nat.le_of_ble_eq_true rfl) (Nat.le_of_ble_eq_true rfl) (Nat.le_of_ble_eq_true rfl) (fun x hx => absurd hx List.not_mem_nil) (q_nmL0 _) (q_nmS0 _) rfl (pos' := 31) (st' := [.int (q_bz r7.1)]) (lI' := [(426, r2.2.1), (450, r7.2)]) (lE' := []) rfl rfl rfl rfl ?_
      refine q_blk 5 [] (c' := q_kc (t, 0, m, z, N, ext, rx, L) (q_tW I 430 (q_u2 r2.2.2.1 r2.1 1 r5.1)) (q_tW E 430 r2.2.2.2) 36 [some (.ref 450), some (.ref x1), some (.ref (430 + r2.1))] [.int (r2.2.1 5), .ref (430 + r2.1)] [(426, r2.2.1), (450, r7.2)] []) ok_X7_readStep rfl q_cn ?_
      refine q_kpT (pos' := 37) ok_X7_readStep rfl (q_t20_lt hu4) rfl rfl rfl rfl ?_
      refine q_blk 2 [] (c' := q_kc (t, 0, m, z, N, ext, rx, L) (q_tW I 430 (q_u2 (q_u2 r2.2.2.1 r2.1 1 r5.1) r2.1 4 (r2.2.1 5))) (q_tW E 430 r2.2.2.2) 39 [some (.ref 450), some (.ref x1), some (.ref (430 + r2.1))] [.int (0 : Int32), .ref 450] [(426, r2.2.1), (450, r7.2)] []) ok_X7_readStep rfl q_cn ?_
      obtain ⟨r8, hr8, hf⟩ := q_bd hf
      refine q_kV (M2 := m_X7_readSum) (As := [.int (0 : Int32)]) (b := 450) (v2 := none) ok_X7_readStep ok_X7_readSum cv_X7_readSum (ct_X7_readSum_450 hq_readValue hq_readSum hr8) rfl rfl (Or.inl rfl) rfl rfl rfl rfl (Nat.le_trans (Nat.le_of_ble_eq_true rfl) hd) (Nat.le_of_ble_eq_true rfl) (Nat.le_of_ble_eq_true rfl) (Nat.le_of_ble_eq_true rfl) (fun x hx => absurd hx List.not_mem_nil) (q_nmL0 _) (q_nmS0 _) rfl (pos' := 40) (st' := []) (lI' := [(426, r8.1), (429, r8.2.1), (450, r8.2.2.1)]) (lE' := [(428, r8.2.2.2)]) rfl rfl rfl rfl ?_
      refine q_blk 4 [] (c' := q_kc (t, 0, m, z, N, ext, rx, L) (q_tW I 430 (q_u2 (q_u2 r2.2.2.1 r2.1 1 r5.1) r2.1 4 (r2.2.1 5))) (q_tW E 430 r2.2.2.2) 44 [some (.ref 450), some (.ref x1), some (.ref (430 + r2.1))] [.int (r8.1 5), .ref (430 + r2.1)] [(426, r8.1), (429, r8.2.1), (450, r8.2.2.1)] [(428, r8.2.2.2)]) ok_X7_readStep rfl q_cn ?_
      refine q_kpT (pos' := 45) ok_X7_readStep rfl (q_t20_lt hu4) rfl rfl rfl rfl ?_
      refine q_blk 3 [] (c' := q_kc (t, 0, m, z, N, ext, rx, L) (q_tW I 430 (q_u2 (q_u2 (q_u2 r2.2.2.1 r2.1 1 r5.1) r2.1 4 (r2.2.1 5)) r2.1 5 (r8.1 5))) (q_tW E 430 r2.2.2.2) 48 [some (.ref 450), some (.ref x1), some (.ref (430 + r2.1))] [.ref 14, .ref 450, .ref (430 + r2.1)] [(426, r8.1), (429, r8.2.1), (450, r8.2.2.1)] [(428, r8.2.2.2)]) ok_X7_readStep rfl q_cn ?_
      obtain ⟨r9, hr9, hf⟩ := q_bd hf
      refine q_kV (M2 := m_X7_readRope) (As := [.ref 14]) (b := 450) (v2 := some (.int r9.1)) ok_X7_readStep ok_X7_readRope cv_X7_readRope (ct_X7_readRope_450 (d := 5) (Nat.le_refl _) hr9) rfl rfl (Or.inl rfl) rfl rfl rfl rfl (Nat.le_trans (Nat.le_of_ble_eq_true rfl) hd) (Nat.le_of_ble_eq_true rfl) (Nat.le_of_ble_eq_true rfl) (Nat.le_of_ble_eq_true rfl) (fun x hx => absurd hx List.not_mem_nil) (q_nmL0 _) (q_nmS0 _) rfl (pos' := 49) (st' := [.int r9.1, .ref (430 + r2.1)]) (lI' := [(426, r8.1), (429, r8.2.1), (450, r9.2)]) (lE' := [(428, r8.2.2.2)]) rfl rfl rfl rfl ?_
      refine q_kpT (pos' := 50) ok_X7_readStep rfl (q_t20_lt hu4) rfl rfl rfl rfl ?_
      refine q_blk 2 [] (c' := q_kc (t, 0, m, z, N, ext, rx, L) (q_tW I 430 (q_u2 (q_u2 (q_u2 (q_u2 r2.2.2.1 r2.1 1 r5.1) r2.1 4 (r2.2.1 5)) r2.1 5 (r8.1 5)) r2.1 3 r9.1)) (q_tW E 430 r2.2.2.2) 94 [some (.ref 450), some (.ref x1), some (.ref (430 + r2.1))] [.ref 450] [(426, r8.1), (429, r8.2.1), (450, r9.2)] [(428, r8.2.2.2)]) ok_X7_readStep rfl q_cn ?_
      obtain ⟨r10, hr10, hf⟩ := q_bd hf
      obtain ⟨u11, hu12, hf⟩ := q_bd hf
      refine q_kV (M2 := m_X7_sign) (As := []) (b := 450) (v2 := some (.ref r10)) ok_X7_readStep ok_X7_sign cv_X7_sign (ct_X7_sign_450 (d := 2) (Nat.le_refl _) hr10) rfl rfl (Or.inl rfl) rfl rfl rfl rfl (Nat.le_trans (Nat.le_of_ble_eq_true rfl) hd) (Nat.le_of_ble_eq_true rfl) (Nat.le_of_ble_eq_true rfl) (Nat.le_of_ble_eq_true rfl) (fun x hx => absurd hx List.not_mem_nil) (q_nmL0 _) (q_nmS0 _) rfl (pos' := 95) (st' := [.ref r10]) (lI' := [(426, r8.1), (429, r8.2.1), (450, r9.2)]) (lE' := [(428, r8.2.2.2)]) rfl rfl rfl rfl ?_
      refine q_blk 1 [] (c' := q_kc (t, 0, m, z, N, ext, rx, L) (q_tW I 430 (q_u2 (q_u2 (q_u2 (q_u2 r2.2.2.1 r2.1 1 r5.1) r2.1 4 (r2.2.1 5)) r2.1 5 (r8.1 5)) r2.1 3 r9.1)) (q_tW E 430 r2.2.2.2) 96 [some (.ref 450), some (.ref x1), some (.ref (430 + r2.1))] [.ref 19, .ref r10] [(426, r8.1), (429, r8.2.1), (450, r9.2)] [(428, r8.2.2.2)]) ok_X7_readStep rfl q_cn ?_
      refine q_o_acmp_ne ok_X7_readStep rfl (q_e49_lt hu12) (Nat.lt_of_lt_of_le (Nat.lt_succ_self _) (Nat.le_of_ble_eq_true rfl)) (fun h13 => ?_) (fun h13 => ?_)
      · have hf := q_in h13 hf
        cases hf
        exact q_krv ok_X7_readStep rfl rfl (Nat.le_of_ble_eq_true rfl) (Nat.le_of_ble_eq_true rfl) ⟨rfl, q_hpe (q_fin [426, 429, 450] rfl) (q_fin [428] rfl)⟩
      · have hf := q_ip h13 hf
        refine q_blk 10 [] (c' := q_kc (t, 0, m, z, N, ext, rx, L) (q_tW I 430 (q_u2 (q_u2 (q_u2 (q_u2 r2.2.2.1 r2.1 1 r5.1) r2.1 4 (r2.2.1 5)) r2.1 5 (r8.1 5)) r2.1 3 r9.1)) (q_tW E 430 r2.2.2.2) 107 [some (.ref 450), some (.ref x1), some (.ref (430 + r2.1))] [.int (r8.1 5), .ref (430 + r2.1)] [(426, r8.1), (429, r8.2.1), (450, (q_up r9.2 3 ((r9.2 3) + (1 : Int32))))] [(428, r8.2.2.2)]) ok_X7_readStep rfl q_cn ?_
        refine q_kpT (pos' := 108) ok_X7_readStep rfl (q_t20_lt hu4) rfl rfl rfl rfl ?_
        refine q_blk 2 [] (c' := q_kc (t, 0, m, z, N, ext, rx, L) (q_tW I 430 (q_u2 (q_u2 (q_u2 (q_u2 (q_u2 r2.2.2.1 r2.1 1 r5.1) r2.1 4 (r2.2.1 5)) r2.1 5 (r8.1 5)) r2.1 3 r9.1) r2.1 6 (r8.1 5))) (q_tW E 430 r2.2.2.2) 110 [some (.ref 450), some (.ref x1), some (.ref (430 + r2.1))] [.int (0 : Int32), .ref 450] [(426, r8.1), (429, r8.2.1), (450, (q_up r9.2 3 ((r9.2 3) + (1 : Int32))))] [(428, r8.2.2.2)]) ok_X7_readStep rfl q_cn ?_
        obtain ⟨r14, hr14, hf⟩ := q_bd hf
        refine q_kV (M2 := m_X7_readTest) (As := [.int (0 : Int32)]) (b := 450) (v2 := none) ok_X7_readStep ok_X7_readTest cv_X7_readTest (ct_X7_readTest_450 hq_readSingle hq_readTest hq_readValue hq_readSum hr14) rfl rfl (Or.inl rfl) rfl rfl rfl rfl (Nat.le_trans (Nat.le_of_ble_eq_true rfl) hd) (Nat.le_of_ble_eq_true rfl) (Nat.le_of_ble_eq_true rfl) (Nat.le_of_ble_eq_true rfl) (fun x hx => absurd hx List.not_mem_nil) (q_nmL0 _) (q_nmS0 _) rfl (pos' := 111) (st' := []) (lI' := [(426, r14.1), (429, r14.2.1), (450, r14.2.2.1)]) (lE' := [(428, r14.2.2.2)]) rfl rfl rfl rfl ?_
        refine q_blk 4 [] (c' := q_kc (t, 0, m, z, N, ext, rx, L) (q_tW I 430 (q_u2 (q_u2 (q_u2 (q_u2 (q_u2 r2.2.2.1 r2.1 1 r5.1) r2.1 4 (r2.2.1 5)) r2.1 5 (r8.1 5)) r2.1 3 r9.1) r2.1 6 (r8.1 5))) (q_tW E 430 r2.2.2.2) 115 [some (.ref 450), some (.ref x1), some (.ref (430 + r2.1))] [.int (r14.1 5), .ref (430 + r2.1)] [(426, r14.1), (429, r14.2.1), (450, r14.2.2.1)] [(428, r14.2.2.2)]) ok_X7_readStep rfl q_cn ?_
        refine q_kpT (pos' := 116) ok_X7_readStep rfl (q_t20_lt hu4) rfl rfl rfl rfl ?_
        cases hf
        exact q_krv ok_X7_readStep rfl rfl (Nat.le_of_ble_eq_true rfl) (Nat.le_of_ble_eq_true rfl) ⟨rfl, q_hpe (q_fin [426, 429, 450] rfl) (q_fin [428] rfl)⟩
  · have hf := q_in h1 hf
    refine q_blk 4 [] (c' := q_kc (t, 0, m, z, N, ext, rx, L) (q_tW I 430 T2) (q_tW E 430 K2) 9 [some (.ref 450), some (.ref x1), none] [.int ((I 450) 3), .int (4 : Int32), .ref 450] [] []) ok_X7_readStep rfl q_cn ?_
    obtain ⟨r45, hr45, hf⟩ := q_bd hf
    refine q_kV (M2 := m_X7_blame) (As := [.int (4 : Int32), .int ((I 450) 3)]) (b := 450) (v2 := none) ok_X7_readStep ok_X7_blame cv_X7_blame (ct_X7_blame_450 (d := 1) (Nat.le_refl _) hr45) rfl rfl (Or.inl rfl) rfl rfl rfl rfl (Nat.le_trans (Nat.le_of_ble_eq_true rfl) hd) (Nat.le_of_ble_eq_true rfl) (Nat.le_of_ble_eq_true rfl) (Nat.le_of_ble_eq_true rfl) (fun x hx => absurd hx List.not_mem_nil) (q_nmL0 _) (q_nmS0 _) rfl (pos' := 10) (st' := []) (lI' := [(450, r45)]) (lE' := []) rfl rfl rfl rfl ?_
    refine q_blk 3 [] (c' := q_kc (t, 0, m, z, N, ext, rx, L) (q_tW I 430 T2) (q_tW E 430 K2) 13 [some (.ref 450), some (.ref x1), none] [.ref x1, .ref 426] [(450, r45)] []) ok_X7_readStep rfl q_cn ?_
    obtain ⟨r46, hr46, hf⟩ := q_bd hf
    obtain ⟨u47, hu48, hf⟩ := q_bd hf
    refine q_kVT (M2 := m_X6_addStep) (As := [.ref x1]) (b := 426) (v2 := some (.ref (430 + r46.1))) ok_X7_readStep ok_X6_addStep cv_X6_addStep (ct_X6_addStep_426 (d := 2) (Nat.le_refl _) hr46) rfl rfl (Or.inl rfl) rfl rfl rfl rfl (Nat.le_trans (Nat.le_of_ble_eq_true rfl) hd) (Nat.le_of_ble_eq_true rfl) (Nat.le_of_ble_eq_true rfl) (Nat.le_of_ble_eq_true rfl) (fun x hx => absurd hx List.not_mem_nil) (q_nmL0 _) (q_nmS0 _) rfl (pos' := 14) (st' := [.ref (430 + r46.1)]) (lI' := [(426, r46.2.1), (450, r45)]) (lE' := []) rfl rfl rfl rfl rfl rfl ?_
    refine q_blk 9 [] (c' := q_kc (t, 0, m, z, N, ext, rx, L) (q_tW I 430 r46.2.2.1) (q_tW E 430 r46.2.2.2) 23 [some (.ref 450), some (.ref x1), some (.ref (430 + r46.1))] [.ref 450, .ref (430 + r46.1)] [(426, r46.2.1), (450, (q_up r45 3 ((r45 3) + (1 : Int32))))] []) ok_X7_readStep rfl q_cn ?_
    obtain ⟨r49, hr49, hf⟩ := q_bd hf
    refine q_kV (M2 := m_X7_readHook) (As := []) (b := 450) (v2 := some (.int r49.1)) ok_X7_readStep ok_X7_readHook cv_X7_readHook (ct_X7_readHook_450 (d := 3) (Nat.le_refl _) hr49) rfl rfl (Or.inl rfl) rfl rfl rfl rfl (Nat.le_trans (Nat.le_of_ble_eq_true rfl) hd) (Nat.le_of_ble_eq_true rfl) (Nat.le_of_ble_eq_true rfl) (Nat.le_of_ble_eq_true rfl) (fun x hx => absurd hx List.not_mem_nil) (q_nmL0 _) (q_nmS0 _) rfl (pos' := 24) (st' := [.int r49.1, .ref (430 + r46.1)]) (lI' := [(426, r46.2.1), (450, r49.2)]) (lE' := []) rfl rfl rfl rfl ?_
    refine q_kpT (pos' := 25) ok_X7_readStep rfl (q_t20_lt hu48) rfl rfl rfl rfl ?_
    refine q_blk 2 [] (c' := q_kc (t, 0, m, z, N, ext, rx, L) (q_tW I 430 (q_u2 r46.2.2.1 r46.1 1 r49.1)) (q_tW E 430 r46.2.2.2) 27 [some (.ref 450), some (.ref x1), some (.ref (430 + r46.1))] [.ref 9, .ref x1] [(426, r46.2.1), (450, r49.2)] []) ok_X7_readStep rfl q_cn ?_
    refine q_o_acmp_ne ok_X7_readStep rfl (q_e49_lt hg1) (Nat.lt_of_lt_of_le (Nat.lt_succ_self _) (Nat.le_of_ble_eq_true rfl)) (fun h50 => ?_) (fun h50 => ?_)
    · have hf := q_in h50 hf
      refine q_blk 2 [] (c' := q_kc (t, 0, m, z, N, ext, rx, L) (q_tW I 430 (q_u2 r46.2.2.1 r46.1 1 r49.1)) (q_tW E 430 r46.2.2.2) 53 [some (.ref 450), some (.ref x1), some (.ref (430 + r46.1))] [.ref 10, .ref x1] [(426, r46.2.1), (450, r49.2)] []) ok_X7_readStep rfl q_cn ?_
      refine q_o_acmp_ne ok_X7_readStep rfl (q_e49_lt hg1) (Nat.lt_of_lt_of_le (Nat.lt_succ_self _) (Nat.le_of_ble_eq_true rfl)) (fun h59 => ?_) (fun h59 => ?_)
      · have hf := q_in h59 hf
        refine q_blk 2 [] (c' := q_kc (t, 0, m, z, N, ext, rx, L) (q_tW I 430 (q_u2 r46.2.2.1 r46.1 1 r49.1)) (q_tW E 430 r46.2.2.2) 70 [some (.ref 450), some (.ref x1), some (.ref (430 + r46.1))] [.ref 11, .ref x1] [(426, r46.2.1), (450, r49.2)] []) ok_X7_readStep rfl q_cn ?_
        refine q_o_acmp_ne ok_X7_readStep rfl (q_e49_lt hg1) (Nat.lt_of_lt_of_le (Nat.lt_succ_self _) (Nat.le_of_ble_eq_true rfl)) (fun h68 => ?_) (fun h68 => ?_)
        · have hf := q_in h68 hf
          refine q_blk 2 [] (c' := q_kc (t, 0, m, z, N, ext, rx, L) (q_tW I 430 (q_u2 r46.2.2.1 r46.1 1 r49.1)) (q_tW E 430 r46.2.2.2) 79 [some (.ref 450), some (.ref x1), some (.ref (430 + r46.1))] [.ref 12, .ref x1] [(426, r46.2.1), (450, r49.2)] []) ok_X7_readStep rfl q_cn ?_
          refine q_o_acmp_ne ok_X7_readStep rfl (q_e49_lt hg1) (Nat.lt_of_lt_of_le (Nat.lt_succ_self _) (Nat.le_of_ble_eq_true rfl)) (fun h75 => ?_) (fun h75 => ?_)
          · have hf := q_in h75 hf
            refine q_blk 1 [] (c' := q_kc (t, 0, m, z, N, ext, rx, L) (q_tW I 430 (q_u2 r46.2.2.1 r46.1 1 r49.1)) (q_tW E 430 r46.2.2.2) 94 [some (.ref 450), some (.ref x1), some (.ref (430 + r46.1))] [.ref 450] [(426, r46.2.1), (450, r49.2)] []) ok_X7_readStep rfl q_cn ?_
            obtain ⟨r84, hr84, hf⟩ := q_bd hf
            obtain ⟨u85, hu86, hf⟩ := q_bd hf
            refine q_kV (M2 := m_X7_sign) (As := []) (b := 450) (v2 := some (.ref r84)) ok_X7_readStep ok_X7_sign cv_X7_sign (ct_X7_sign_450 (d := 2) (Nat.le_refl _) hr84) rfl rfl (Or.inl rfl) rfl rfl rfl rfl (Nat.le_trans (Nat.le_of_ble_eq_true rfl) hd) (Nat.le_of_ble_eq_true rfl) (Nat.le_of_ble_eq_true rfl) (Nat.le_of_ble_eq_true rfl) (fun x hx => absurd hx List.not_mem_nil) (q_nmL0 _) (q_nmS0 _) rfl (pos' := 95) (st' := [.ref r84]) (lI' := [(426, r46.2.1), (450, r49.2)]) (lE' := []) rfl rfl rfl rfl ?_
            refine q_blk 1 [] (c' := q_kc (t, 0, m, z, N, ext, rx, L) (q_tW I 430 (q_u2 r46.2.2.1 r46.1 1 r49.1)) (q_tW E 430 r46.2.2.2) 96 [some (.ref 450), some (.ref x1), some (.ref (430 + r46.1))] [.ref 19, .ref r84] [(426, r46.2.1), (450, r49.2)] []) ok_X7_readStep rfl q_cn ?_
            refine q_o_acmp_ne ok_X7_readStep rfl (q_e49_lt hu86) (Nat.lt_of_lt_of_le (Nat.lt_succ_self _) (Nat.le_of_ble_eq_true rfl)) (fun h87 => ?_) (fun h87 => ?_)
            · have hf := q_in h87 hf
              cases hf
              exact q_krv ok_X7_readStep rfl rfl (Nat.le_of_ble_eq_true rfl) (Nat.le_of_ble_eq_true rfl) ⟨rfl, q_hpe (q_fin [426, 429, 450] rfl) (q_fin [428] rfl)⟩
            · have hf := q_ip h87 hf
              refine q_blk 10 [] (c' := q_kc (t, 0, m, z, N, ext, rx, L) (q_tW I 430 (q_u2 r46.2.2.1 r46.1 1 r49.1)) (q_tW E 430 r46.2.2.2) 107 [some (.ref 450), some (.ref x1), some (.ref (430 + r46.1))] [.int (r46.2.1 5), .ref (430 + r46.1)] [(426, r46.2.1), (450, (q_up r49.2 3 ((r49.2 3) + (1 : Int32))))] []) ok_X7_readStep rfl q_cn ?_
              refine q_kpT (pos' := 108) ok_X7_readStep rfl (q_t20_lt hu48) rfl rfl rfl rfl ?_
              refine q_blk 2 [] (c' := q_kc (t, 0, m, z, N, ext, rx, L) (q_tW I 430 (q_u2 (q_u2 r46.2.2.1 r46.1 1 r49.1) r46.1 6 (r46.2.1 5))) (q_tW E 430 r46.2.2.2) 110 [some (.ref 450), some (.ref x1), some (.ref (430 + r46.1))] [.int (0 : Int32), .ref 450] [(426, r46.2.1), (450, (q_up r49.2 3 ((r49.2 3) + (1 : Int32))))] []) ok_X7_readStep rfl q_cn ?_
              obtain ⟨r88, hr88, hf⟩ := q_bd hf
              refine q_kV (M2 := m_X7_readTest) (As := [.int (0 : Int32)]) (b := 450) (v2 := none) ok_X7_readStep ok_X7_readTest cv_X7_readTest (ct_X7_readTest_450 hq_readSingle hq_readTest hq_readValue hq_readSum hr88) rfl rfl (Or.inl rfl) rfl rfl rfl rfl (Nat.le_trans (Nat.le_of_ble_eq_true rfl) hd) (Nat.le_of_ble_eq_true rfl) (Nat.le_of_ble_eq_true rfl) (Nat.le_of_ble_eq_true rfl) (fun x hx => absurd hx List.not_mem_nil) (q_nmL0 _) (q_nmS0 _) rfl (pos' := 111) (st' := []) (lI' := [(426, r88.1), (429, r88.2.1), (450, r88.2.2.1)]) (lE' := [(428, r88.2.2.2)]) rfl rfl rfl rfl ?_
              refine q_blk 4 [] (c' := q_kc (t, 0, m, z, N, ext, rx, L) (q_tW I 430 (q_u2 (q_u2 r46.2.2.1 r46.1 1 r49.1) r46.1 6 (r46.2.1 5))) (q_tW E 430 r46.2.2.2) 115 [some (.ref 450), some (.ref x1), some (.ref (430 + r46.1))] [.int (r88.1 5), .ref (430 + r46.1)] [(426, r88.1), (429, r88.2.1), (450, r88.2.2.1)] [(428, r88.2.2.2)]) ok_X7_readStep rfl q_cn ?_
              refine q_kpT (pos' := 116) ok_X7_readStep rfl (q_t20_lt hu48) rfl rfl rfl rfl ?_
              cases hf
              exact q_krv ok_X7_readStep rfl rfl (Nat.le_of_ble_eq_true rfl) (Nat.le_of_ble_eq_true rfl) ⟨rfl, q_hpe (q_fin [426, 429, 450] rfl) (q_fin [428] rfl)⟩
          · have hf := q_ip h75 hf
            refine q_blk 2 [] (c' := q_kc (t, 0, m, z, N, ext, rx, L) (q_tW I 430 (q_u2 r46.2.2.1 r46.1 1 r49.1)) (q_tW E 430 r46.2.2.2) 82 [some (.ref 450), some (.ref x1), some (.ref (430 + r46.1))] [.ref 17, .ref 450] [(426, r46.2.1), (450, r49.2)] []) ok_X7_readStep rfl q_cn ?_
            obtain ⟨r76, hr76, hf⟩ := q_bd hf
            refine q_kV (M2 := m_X7_take) (As := [.ref 17]) (b := 450) (v2 := some (.int (q_bz r76.1))) ok_X7_readStep ok_X7_take cv_X7_take (ct_X7_take_450 (d := 3) (Nat.le_refl _) hr76) rfl rfl (Or.inl rfl) rfl rfl rfl rfl (Nat.le_trans (Nat.le_of_ble_eq_true rfl) hd) (Nat.le_of_ble_eq_true rfl) (Nat.le_of_ble_eq_true rfl) (Nat.le_of_ble_eq_true rfl) (fun x hx => absurd hx List.not_mem_nil) (q_nmL0 _) (q_nmS0 _) rfl (pos' := 83) (st' := [.int (q_bz r76.1)]) (lI' := [(426, r46.2.1), (450, r76.2)]) (lE' := []) rfl rfl rfl rfl ?_
            refine q_blk 3 [] (c' := q_kc (t, 0, m, z, N, ext, rx, L) (q_tW I 430 (q_u2 r46.2.2.1 r46.1 1 r49.1)) (q_tW E 430 r46.2.2.2) 86 [some (.ref 450), some (.ref x1), some (.ref (430 + r46.1))] [.ref 450, .ref (430 + r46.1)] [(426, r46.2.1), (450, r76.2)] []) ok_X7_readStep rfl q_cn ?_
            obtain ⟨r77, hr77, hf⟩ := q_bd hf
            refine q_kV (M2 := m_X7_readHook) (As := []) (b := 450) (v2 := some (.int r77.1)) ok_X7_readStep ok_X7_readHook cv_X7_readHook (ct_X7_readHook_450 (d := 3) (Nat.le_refl _) hr77) rfl rfl (Or.inl rfl) rfl rfl rfl rfl (Nat.le_trans (Nat.le_of_ble_eq_true rfl) hd) (Nat.le_of_ble_eq_true rfl) (Nat.le_of_ble_eq_true rfl) (Nat.le_of_ble_eq_true rfl) (fun x hx => absurd hx List.not_mem_nil) (q_nmL0 _) (q_nmS0 _) rfl (pos' := 87) (st' := [.int r77.1, .ref (430 + r46.1)]) (lI' := [(426, r46.2.1), (450, r77.2)]) (lE' := []) rfl rfl rfl rfl ?_
            refine q_kpT (pos' := 88) ok_X7_readStep rfl (q_t20_lt hu48) rfl rfl rfl rfl ?_
            refine q_blk 3 [] (c' := q_kc (t, 0, m, z, N, ext, rx, L) (q_tW I 430 (q_u2 (q_u2 r46.2.2.1 r46.1 1 r49.1) r46.1 2 r77.1)) (q_tW E 430 r46.2.2.2) 91 [some (.ref 450), some (.ref x1), some (.ref (430 + r46.1))] [.ref 15, .ref 450, .ref (430 + r46.1)] [(426, r46.2.1), (450, r77.2)] []) ok_X7_readStep rfl q_cn ?_
            obtain ⟨r78, hr78, hf⟩ := q_bd hf
            refine q_kV (M2 := m_X7_readRope) (As := [.ref 15]) (b := 450) (v2 := some (.int r78.1)) ok_X7_readStep ok_X7_readRope cv_X7_readRope (ct_X7_readRope_450 (d := 5) (Nat.le_refl _) hr78) rfl rfl (Or.inl rfl) rfl rfl rfl rfl (Nat.le_trans (Nat.le_of_ble_eq_true rfl) hd) (Nat.le_of_ble_eq_true rfl) (Nat.le_of_ble_eq_true rfl) (Nat.le_of_ble_eq_true rfl) (fun x hx => absurd hx List.not_mem_nil) (q_nmL0 _) (q_nmS0 _) rfl (pos' := 92) (st' := [.int r78.1, .ref (430 + r46.1)]) (lI' := [(426, r46.2.1), (450, r78.2)]) (lE' := []) rfl rfl rfl rfl ?_
            refine q_kpT (pos' := 93) ok_X7_readStep rfl (q_t20_lt hu48) rfl rfl rfl rfl ?_
            refine q_blk 1 [] (c' := q_kc (t, 0, m, z, N, ext, rx, L) (q_tW I 430 (q_u2 (q_u2 (q_u2 r46.2.2.1 r46.1 1 r49.1) r46.1 2 r77.1) r46.1 3 r78.1)) (q_tW E 430 r46.2.2.2) 94 [some (.ref 450), some (.ref x1), some (.ref (430 + r46.1))] [.ref 450] [(426, r46.2.1), (450, r78.2)] []) ok_X7_readStep rfl q_cn ?_
            obtain ⟨r79, hr79, hf⟩ := q_bd hf
            obtain ⟨u80, hu81, hf⟩ := q_bd hf
            refine q_kV (M2 := m_X7_sign) (As := []) (b := 450) (v2 := some (.ref r79)) ok_X7_readStep ok_X7_sign cv_X7_sign (ct_X7_sign_450 (d := 2) (Nat.le_refl _) hr79) rfl rfl (Or.inl rfl) rfl rfl rfl rfl (Nat.le_trans (Nat.le_of_ble_eq_true rfl) hd) (Nat.le_of_ble_eq_true rfl) (Nat.le_of_ble_eq_true rfl) (Nat.le_of_ble_eq_true rfl) (fun x hx => absurd hx List.not_mem_nil) (q_nmL0 _) (q_nmS0 _) rfl (pos' := 95) (st' := [.ref r79]) (lI' := [(426, r46.2.1), (450, r78.2)]) (lE' := []) rfl rfl rfl rfl ?_
            refine q_blk 1 [] (c' := q_kc (t, 0, m, z, N, ext, rx, L) (q_tW I 430 (q_u2 (q_u2 (q_u2 r46.2.2.1 r46.1 1 r49.1) r46.1 2 r77.1) r46.1 3 r78.1)) (q_tW E 430 r46.2.2.2) 96 [some (.ref 450), some (.ref x1), some (.ref (430 + r46.1))] [.ref 19, .ref r79] [(426, r46.2.1), (450, r78.2)] []) ok_X7_readStep rfl q_cn ?_
            refine q_o_acmp_ne ok_X7_readStep rfl (q_e49_lt hu81) (Nat.lt_of_lt_of_le (Nat.lt_succ_self _) (Nat.le_of_ble_eq_true rfl)) (fun h82 => ?_) (fun h82 => ?_)
            · have hf := q_in h82 hf
              cases hf
              exact q_krv ok_X7_readStep rfl rfl (Nat.le_of_ble_eq_true rfl) (Nat.le_of_ble_eq_true rfl) ⟨rfl, q_hpe (q_fin [426, 429, 450] rfl) (q_fin [428] rfl)⟩
            · have hf := q_ip h82 hf
              refine q_blk 10 [] (c' := q_kc (t, 0, m, z, N, ext, rx, L) (q_tW I 430 (q_u2 (q_u2 (q_u2 r46.2.2.1 r46.1 1 r49.1) r46.1 2 r77.1) r46.1 3 r78.1)) (q_tW E 430 r46.2.2.2) 107 [some (.ref 450), some (.ref x1), some (.ref (430 + r46.1))] [.int (r46.2.1 5), .ref (430 + r46.1)] [(426, r46.2.1), (450, (q_up r78.2 3 ((r78.2 3) + (1 : Int32))))] []) ok_X7_readStep rfl q_cn ?_
              refine q_kpT (pos' := 108) ok_X7_readStep rfl (q_t20_lt hu48) rfl rfl rfl rfl ?_
              refine q_blk 2 [] (c' := q_kc (t, 0, m, z, N, ext, rx, L) (q_tW I 430 (q_u2 (q_u2 (q_u2 (q_u2 r46.2.2.1 r46.1 1 r49.1) r46.1 2 r77.1) r46.1 3 r78.1) r46.1 6 (r46.2.1 5))) (q_tW E 430 r46.2.2.2) 110 [some (.ref 450), some (.ref x1), some (.ref (430 + r46.1))] [.int (0 : Int32), .ref 450] [(426, r46.2.1), (450, (q_up r78.2 3 ((r78.2 3) + (1 : Int32))))] []) ok_X7_readStep rfl q_cn ?_
              obtain ⟨r83, hr83, hf⟩ := q_bd hf
              refine q_kV (M2 := m_X7_readTest) (As := [.int (0 : Int32)]) (b := 450) (v2 := none) ok_X7_readStep ok_X7_readTest cv_X7_readTest (ct_X7_readTest_450 hq_readSingle hq_readTest hq_readValue hq_readSum hr83) rfl rfl (Or.inl rfl) rfl rfl rfl rfl (Nat.le_trans (Nat.le_of_ble_eq_true rfl) hd) (Nat.le_of_ble_eq_true rfl) (Nat.le_of_ble_eq_true rfl) (Nat.le_of_ble_eq_true rfl) (fun x hx => absurd hx List.not_mem_nil) (q_nmL0 _) (q_nmS0 _) rfl (pos' := 111) (st' := []) (lI' := [(426, r83.1), (429, r83.2.1), (450, r83.2.2.1)]) (lE' := [(428, r83.2.2.2)]) rfl rfl rfl rfl ?_
              refine q_blk 4 [] (c' := q_kc (t, 0, m, z, N, ext, rx, L) (q_tW I 430 (q_u2 (q_u2 (q_u2 (q_u2 r46.2.2.1 r46.1 1 r49.1) r46.1 2 r77.1) r46.1 3 r78.1) r46.1 6 (r46.2.1 5))) (q_tW E 430 r46.2.2.2) 115 [some (.ref 450), some (.ref x1), some (.ref (430 + r46.1))] [.int (r83.1 5), .ref (430 + r46.1)] [(426, r83.1), (429, r83.2.1), (450, r83.2.2.1)] [(428, r83.2.2.2)]) ok_X7_readStep rfl q_cn ?_
              refine q_kpT (pos' := 116) ok_X7_readStep rfl (q_t20_lt hu48) rfl rfl rfl rfl ?_
              cases hf
              exact q_krv ok_X7_readStep rfl rfl (Nat.le_of_ble_eq_true rfl) (Nat.le_of_ble_eq_true rfl) ⟨rfl, q_hpe (q_fin [426, 429, 450] rfl) (q_fin [428] rfl)⟩
        · have hf := q_ip h68 hf
          refine q_blk 3 [] (c' := q_kc (t, 0, m, z, N, ext, rx, L) (q_tW I 430 (q_u2 r46.2.2.1 r46.1 1 r49.1)) (q_tW E 430 r46.2.2.2) 74 [some (.ref 450), some (.ref x1), some (.ref (430 + r46.1))] [.ref 15, .ref 450, .ref (430 + r46.1)] [(426, r46.2.1), (450, r49.2)] []) ok_X7_readStep rfl q_cn ?_
          obtain ⟨r69, hr69, hf⟩ := q_bd hf
          refine q_kV (M2 := m_X7_readRope) (As := [.ref 15]) (b := 450) (v2 := some (.int r69.1)) ok_X7_readStep ok_X7_readRope cv_X7_readRope (ct_X7_readRope_450 (d := 5) (Nat.le_refl _) hr69) rfl rfl (Or.inl rfl) rfl rfl rfl rfl (Nat.le_trans (Nat.le_of_ble_eq_true rfl) hd) (Nat.le_of_ble_eq_true rfl) (Nat.le_of_ble_eq_true rfl) (Nat.le_of_ble_eq_true rfl) (fun x hx => absurd hx List.not_mem_nil) (q_nmL0 _) (q_nmS0 _) rfl (pos' := 75) (st' := [.int r69.1, .ref (430 + r46.1)]) (lI' := [(426, r46.2.1), (450, r69.2)]) (lE' := []) rfl rfl rfl rfl ?_
          refine q_kpT (pos' := 76) ok_X7_readStep rfl (q_t20_lt hu48) rfl rfl rfl rfl ?_
          refine q_blk 2 [] (c' := q_kc (t, 0, m, z, N, ext, rx, L) (q_tW I 430 (q_u2 (q_u2 r46.2.2.1 r46.1 1 r49.1) r46.1 3 r69.1)) (q_tW E 430 r46.2.2.2) 94 [some (.ref 450), some (.ref x1), some (.ref (430 + r46.1))] [.ref 450] [(426, r46.2.1), (450, r69.2)] []) ok_X7_readStep rfl q_cn ?_
          obtain ⟨r70, hr70, hf⟩ := q_bd hf
          obtain ⟨u71, hu72, hf⟩ := q_bd hf
          refine q_kV (M2 := m_X7_sign) (As := []) (b := 450) (v2 := some (.ref r70)) ok_X7_readStep ok_X7_sign cv_X7_sign (ct_X7_sign_450 (d := 2) (Nat.le_refl _) hr70) rfl rfl (Or.inl rfl) rfl rfl rfl rfl (Nat.le_trans (Nat.le_of_ble_eq_true rfl) hd) (Nat.le_of_ble_eq_true rfl) (Nat.le_of_ble_eq_true rfl) (Nat.le_of_ble_eq_true rfl) (fun x hx => absurd hx List.not_mem_nil) (q_nmL0 _) (q_nmS0 _) rfl (pos' := 95) (st' := [.ref r70]) (lI' := [(426, r46.2.1), (450, r69.2)]) (lE' := []) rfl rfl rfl rfl ?_
          refine q_blk 1 [] (c' := q_kc (t, 0, m, z, N, ext, rx, L) (q_tW I 430 (q_u2 (q_u2 r46.2.2.1 r46.1 1 r49.1) r46.1 3 r69.1)) (q_tW E 430 r46.2.2.2) 96 [some (.ref 450), some (.ref x1), some (.ref (430 + r46.1))] [.ref 19, .ref r70] [(426, r46.2.1), (450, r69.2)] []) ok_X7_readStep rfl q_cn ?_
          refine q_o_acmp_ne ok_X7_readStep rfl (q_e49_lt hu72) (Nat.lt_of_lt_of_le (Nat.lt_succ_self _) (Nat.le_of_ble_eq_true rfl)) (fun h73 => ?_) (fun h73 => ?_)
          · have hf := q_in h73 hf
            cases hf
            exact q_krv ok_X7_readStep rfl rfl (Nat.le_of_ble_eq_true rfl) (Nat.le_of_ble_eq_true rfl) ⟨rfl, q_hpe (q_fin [426, 429, 450] rfl) (q_fin [428] rfl)⟩
          · have hf := q_ip h73 hf
            refine q_blk 10 [] (c' := q_kc (t, 0, m, z, N, ext, rx, L) (q_tW I 430 (q_u2 (q_u2 r46.2.2.1 r46.1 1 r49.1) r46.1 3 r69.1)) (q_tW E 430 r46.2.2.2) 107 [some (.ref 450), some (.ref x1), some (.ref (430 + r46.1))] [.int (r46.2.1 5), .ref (430 + r46.1)] [(426, r46.2.1), (450, (q_up r69.2 3 ((r69.2 3) + (1 : Int32))))] []) ok_X7_readStep rfl q_cn ?_
            refine q_kpT (pos' := 108) ok_X7_readStep rfl (q_t20_lt hu48) rfl rfl rfl rfl ?_
            refine q_blk 2 [] (c' := q_kc (t, 0, m, z, N, ext, rx, L) (q_tW I 430 (q_u2 (q_u2 (q_u2 r46.2.2.1 r46.1 1 r49.1) r46.1 3 r69.1) r46.1 6 (r46.2.1 5))) (q_tW E 430 r46.2.2.2) 110 [some (.ref 450), some (.ref x1), some (.ref (430 + r46.1))] [.int (0 : Int32), .ref 450] [(426, r46.2.1), (450, (q_up r69.2 3 ((r69.2 3) + (1 : Int32))))] []) ok_X7_readStep rfl q_cn ?_
            obtain ⟨r74, hr74, hf⟩ := q_bd hf
            refine q_kV (M2 := m_X7_readTest) (As := [.int (0 : Int32)]) (b := 450) (v2 := none) ok_X7_readStep ok_X7_readTest cv_X7_readTest (ct_X7_readTest_450 hq_readSingle hq_readTest hq_readValue hq_readSum hr74) rfl rfl (Or.inl rfl) rfl rfl rfl rfl (Nat.le_trans (Nat.le_of_ble_eq_true rfl) hd) (Nat.le_of_ble_eq_true rfl) (Nat.le_of_ble_eq_true rfl) (Nat.le_of_ble_eq_true rfl) (fun x hx => absurd hx List.not_mem_nil) (q_nmL0 _) (q_nmS0 _) rfl (pos' := 111) (st' := []) (lI' := [(426, r74.1), (429, r74.2.1), (450, r74.2.2.1)]) (lE' := [(428, r74.2.2.2)]) rfl rfl rfl rfl ?_
            refine q_blk 4 [] (c' := q_kc (t, 0, m, z, N, ext, rx, L) (q_tW I 430 (q_u2 (q_u2 (q_u2 r46.2.2.1 r46.1 1 r49.1) r46.1 3 r69.1) r46.1 6 (r46.2.1 5))) (q_tW E 430 r46.2.2.2) 115 [some (.ref 450), some (.ref x1), some (.ref (430 + r46.1))] [.int (r74.1 5), .ref (430 + r46.1)] [(426, r74.1), (429, r74.2.1), (450, r74.2.2.1)] [(428, r74.2.2.2)]) ok_X7_readStep rfl q_cn ?_
            refine q_kpT (pos' := 116) ok_X7_readStep rfl (q_t20_lt hu48) rfl rfl rfl rfl ?_
            cases hf
            exact q_krv ok_X7_readStep rfl rfl (Nat.le_of_ble_eq_true rfl) (Nat.le_of_ble_eq_true rfl) ⟨rfl, q_hpe (q_fin [426, 429, 450] rfl) (q_fin [428] rfl)⟩
      · have hf := q_ip h59 hf
        refine q_blk 3 [] (c' := q_kc (t, 0, m, z, N, ext, rx, L) (q_tW I 430 (q_u2 r46.2.2.1 r46.1 1 r49.1)) (q_tW E 430 r46.2.2.2) 57 [some (.ref 450), some (.ref x1), some (.ref (430 + r46.1))] [.ref 15, .ref 450, .ref (430 + r46.1)] [(426, r46.2.1), (450, r49.2)] []) ok_X7_readStep rfl q_cn ?_
        obtain ⟨r60, hr60, hf⟩ := q_bd hf
        refine q_kV (M2 := m_X7_readRope) (As := [.ref 15]) (b := 450) (v2 := some (.int r60.1)) ok_X7_readStep ok_X7_readRope cv_X7_readRope (ct_X7_readRope_450 (d := 5) (Nat.le_refl _) hr60) rfl rfl (Or.inl rfl) rfl rfl rfl rfl (Nat.le_trans (Nat.le_of_ble_eq_true rfl) hd) (Nat.le_of_ble_eq_true rfl) (Nat.le_of_ble_eq_true rfl) (Nat.le_of_ble_eq_true rfl) (fun x hx => absurd hx List.not_mem_nil) (q_nmL0 _) (q_nmS0 _) rfl (pos' := 58) (st' := [.int r60.1, .ref (430 + r46.1)]) (lI' := [(426, r46.2.1), (450, r60.2)]) (lE' := []) rfl rfl rfl rfl ?_
        refine q_kpT (pos' := 59) ok_X7_readStep rfl (q_t20_lt hu48) rfl rfl rfl rfl ?_
        refine q_blk 2 [] (c' := q_kc (t, 0, m, z, N, ext, rx, L) (q_tW I 430 (q_u2 (q_u2 r46.2.2.1 r46.1 1 r49.1) r46.1 3 r60.1)) (q_tW E 430 r46.2.2.2) 61 [some (.ref 450), some (.ref x1), some (.ref (430 + r46.1))] [.ref 16, .ref 450] [(426, r46.2.1), (450, r60.2)] []) ok_X7_readStep rfl q_cn ?_
        obtain ⟨r61, hr61, hf⟩ := q_bd hf
        refine q_kV (M2 := m_X7_take) (As := [.ref 16]) (b := 450) (v2 := some (.int (q_bz r61.1))) ok_X7_readStep ok_X7_take cv_X7_take (ct_X7_take_450 (d := 3) (Nat.le_refl _) hr61) rfl rfl (Or.inl rfl) rfl rfl rfl rfl (Nat.le_trans (Nat.le_of_ble_eq_true rfl) hd) (Nat.le_of_ble_eq_true rfl) (Nat.le_of_ble_eq_true rfl) (Nat.le_of_ble_eq_true rfl) (fun x hx => absurd hx List.not_mem_nil) (q_nmL0 _) (q_nmS0 _) rfl (pos' := 62) (st' := [.int (q_bz r61.1)]) (lI' := [(426, r46.2.1), (450, r61.2)]) (lE' := []) rfl rfl rfl rfl ?_
        refine q_blk 3 [] (c' := q_kc (t, 0, m, z, N, ext, rx, L) (q_tW I 430 (q_u2 (q_u2 r46.2.2.1 r46.1 1 r49.1) r46.1 3 r60.1)) (q_tW E 430 r46.2.2.2) 65 [some (.ref 450), some (.ref x1), some (.ref (430 + r46.1))] [.ref 450, .ref (430 + r46.1)] [(426, r46.2.1), (450, r61.2)] []) ok_X7_readStep rfl q_cn ?_
        obtain ⟨r62, hr62, hf⟩ := q_bd hf
        refine q_kV (M2 := m_X7_readHook) (As := []) (b := 450) (v2 := some (.int r62.1)) ok_X7_readStep ok_X7_readHook cv_X7_readHook (ct_X7_readHook_450 (d := 3) (Nat.le_refl _) hr62) rfl rfl (Or.inl rfl) rfl rfl rfl rfl (Nat.le_trans (Nat.le_of_ble_eq_true rfl) hd) (Nat.le_of_ble_eq_true rfl) (Nat.le_of_ble_eq_true rfl) (Nat.le_of_ble_eq_true rfl) (fun x hx => absurd hx List.not_mem_nil) (q_nmL0 _) (q_nmS0 _) rfl (pos' := 66) (st' := [.int r62.1, .ref (430 + r46.1)]) (lI' := [(426, r46.2.1), (450, r62.2)]) (lE' := []) rfl rfl rfl rfl ?_
        refine q_kpT (pos' := 67) ok_X7_readStep rfl (q_t20_lt hu48) rfl rfl rfl rfl ?_
        refine q_blk 2 [] (c' := q_kc (t, 0, m, z, N, ext, rx, L) (q_tW I 430 (q_u2 (q_u2 (q_u2 r46.2.2.1 r46.1 1 r49.1) r46.1 3 r60.1) r46.1 2 r62.1)) (q_tW E 430 r46.2.2.2) 94 [some (.ref 450), some (.ref x1), some (.ref (430 + r46.1))] [.ref 450] [(426, r46.2.1), (450, r62.2)] []) ok_X7_readStep rfl q_cn ?_
        obtain ⟨r63, hr63, hf⟩ := q_bd hf
        obtain ⟨u64, hu65, hf⟩ := q_bd hf
        refine q_kV (M2 := m_X7_sign) (As := []) (b := 450) (v2 := some (.ref r63)) ok_X7_readStep ok_X7_sign cv_X7_sign (ct_X7_sign_450 (d := 2) (Nat.le_refl _) hr63) rfl rfl (Or.inl rfl) rfl rfl rfl rfl (Nat.le_trans (Nat.le_of_ble_eq_true rfl) hd) (Nat.le_of_ble_eq_true rfl) (Nat.le_of_ble_eq_true rfl) (Nat.le_of_ble_eq_true rfl) (fun x hx => absurd hx List.not_mem_nil) (q_nmL0 _) (q_nmS0 _) rfl (pos' := 95) (st' := [.ref r63]) (lI' := [(426, r46.2.1), (450, r62.2)]) (lE' := []) rfl rfl rfl rfl ?_
        refine q_blk 1 [] (c' := q_kc (t, 0, m, z, N, ext, rx, L) (q_tW I 430 (q_u2 (q_u2 (q_u2 r46.2.2.1 r46.1 1 r49.1) r46.1 3 r60.1) r46.1 2 r62.1)) (q_tW E 430 r46.2.2.2) 96 [some (.ref 450), some (.ref x1), some (.ref (430 + r46.1))] [.ref 19, .ref r63] [(426, r46.2.1), (450, r62.2)] []) ok_X7_readStep rfl q_cn ?_
        refine q_o_acmp_ne ok_X7_readStep rfl (q_e49_lt hu65) (Nat.lt_of_lt_of_le (Nat.lt_succ_self _) (Nat.le_of_ble_eq_true rfl)) (fun h66 => ?_) (fun h66 => ?_)
        · have hf := q_in h66 hf
          cases hf
          exact q_krv ok_X7_readStep rfl rfl (Nat.le_of_ble_eq_true rfl) (Nat.le_of_ble_eq_true rfl) ⟨rfl, q_hpe (q_fin [426, 429, 450] rfl) (q_fin [428] rfl)⟩
        · have hf := q_ip h66 hf
          refine q_blk 10 [] (c' := q_kc (t, 0, m, z, N, ext, rx, L) (q_tW I 430 (q_u2 (q_u2 (q_u2 r46.2.2.1 r46.1 1 r49.1) r46.1 3 r60.1) r46.1 2 r62.1)) (q_tW E 430 r46.2.2.2) 107 [some (.ref 450), some (.ref x1), some (.ref (430 + r46.1))] [.int (r46.2.1 5), .ref (430 + r46.1)] [(426, r46.2.1), (450, (q_up r62.2 3 ((r62.2 3) + (1 : Int32))))] []) ok_X7_readStep rfl q_cn ?_
          refine q_kpT (pos' := 108) ok_X7_readStep rfl (q_t20_lt hu48) rfl rfl rfl rfl ?_
          refine q_blk 2 [] (c' := q_kc (t, 0, m, z, N, ext, rx, L) (q_tW I 430 (q_u2 (q_u2 (q_u2 (q_u2 r46.2.2.1 r46.1 1 r49.1) r46.1 3 r60.1) r46.1 2 r62.1) r46.1 6 (r46.2.1 5))) (q_tW E 430 r46.2.2.2) 110 [some (.ref 450), some (.ref x1), some (.ref (430 + r46.1))] [.int (0 : Int32), .ref 450] [(426, r46.2.1), (450, (q_up r62.2 3 ((r62.2 3) + (1 : Int32))))] []) ok_X7_readStep rfl q_cn ?_
          obtain ⟨r67, hr67, hf⟩ := q_bd hf
          refine q_kV (M2 := m_X7_readTest) (As := [.int (0 : Int32)]) (b := 450) (v2 := none) ok_X7_readStep ok_X7_readTest cv_X7_readTest (ct_X7_readTest_450 hq_readSingle hq_readTest hq_readValue hq_readSum hr67) rfl rfl (Or.inl rfl) rfl rfl rfl rfl (Nat.le_trans (Nat.le_of_ble_eq_true rfl) hd) (Nat.le_of_ble_eq_true rfl) (Nat.le_of_ble_eq_true rfl) (Nat.le_of_ble_eq_true rfl) (fun x hx => absurd hx List.not_mem_nil) (q_nmL0 _) (q_nmS0 _) rfl (pos' := 111) (st' := []) (lI' := [(426, r67.1), (429, r67.2.1), (450, r67.2.2.1)]) (lE' := [(428, r67.2.2.2)]) rfl rfl rfl rfl ?_
          refine q_blk 4 [] (c' := q_kc (t, 0, m, z, N, ext, rx, L) (q_tW I 430 (q_u2 (q_u2 (q_u2 (q_u2 r46.2.2.1 r46.1 1 r49.1) r46.1 3 r60.1) r46.1 2 r62.1) r46.1 6 (r46.2.1 5))) (q_tW E 430 r46.2.2.2) 115 [some (.ref 450), some (.ref x1), some (.ref (430 + r46.1))] [.int (r67.1 5), .ref (430 + r46.1)] [(426, r67.1), (429, r67.2.1), (450, r67.2.2.1)] [(428, r67.2.2.2)]) ok_X7_readStep rfl q_cn ?_
          refine q_kpT (pos' := 116) ok_X7_readStep rfl (q_t20_lt hu48) rfl rfl rfl rfl ?_
          cases hf
          exact q_krv ok_X7_readStep rfl rfl (Nat.le_of_ble_eq_true rfl) (Nat.le_of_ble_eq_true rfl) ⟨rfl, q_hpe (q_fin [426, 429, 450] rfl) (q_fin [428] rfl)⟩
    · have hf := q_ip h50 hf
      refine q_blk 2 [] (c' := q_kc (t, 0, m, z, N, ext, rx, L) (q_tW I 430 (q_u2 r46.2.2.1 r46.1 1 r49.1)) (q_tW E 430 r46.2.2.2) 30 [some (.ref 450), some (.ref x1), some (.ref (430 + r46.1))] [.ref 25, .ref 450] [(426, r46.2.1), (450, r49.2)] []) ok_X7_readStep rfl q_cn ?_
      obtain ⟨r51, hr51, hf⟩ := q_bd hf
      refine q_kV (M2 := m_X7_take) (As := [.ref 25]) (b := 450) (v2 := some (.int (q_bz r51.1))) ok_X7_readStep ok_X7_take cv_X7_take (ct_X7_take_450 (d := 3) (Nat.le_refl _) hr51) rfl rfl (Or.inl rfl) rfl rfl rfl rfl (Nat.le_trans (Nat.le_of_ble_eq_true rfl) hd) (Nat.le_of_ble_eq_true rfl) (Nat.le_of_ble_eq_true rfl) (Nat.le_of_ble_eq_true rfl) (fun x hx => absurd hx List.not_mem_nil) (q_nmL0 _) (q_nmS0 _) rfl (pos' := 31) (st' := [.int (q_bz r51.1)]) (lI' := [(426, r46.2.1), (450, r51.2)]) (lE' := []) rfl rfl rfl rfl ?_
      refine q_blk 5 [] (c' := q_kc (t, 0, m, z, N, ext, rx, L) (q_tW I 430 (q_u2 r46.2.2.1 r46.1 1 r49.1)) (q_tW E 430 r46.2.2.2) 36 [some (.ref 450), some (.ref x1), some (.ref (430 + r46.1))] [.int (r46.2.1 5), .ref (430 + r46.1)] [(426, r46.2.1), (450, r51.2)] []) ok_X7_readStep rfl q_cn ?_
      refine q_kpT (pos' := 37) ok_X7_readStep rfl (q_t20_lt hu48) rfl rfl rfl rfl ?_
      refine q_blk 2 [] (c' := q_kc (t, 0, m, z, N, ext, rx, L) (q_tW I 430 (q_u2 (q_u2 r46.2.2.1 r46.1 1 r49.1) r46.1 4 (r46.2.1 5))) (q_tW E 430 r46.2.2.2) 39 [some (.ref 450), some (.ref x1), some (.ref (430 + r46.1))] [.int (0 : Int32), .ref 450] [(426, r46.2.1), (450, r51.2)] []) ok_X7_readStep rfl q_cn ?_
      obtain ⟨r52, hr52, hf⟩ := q_bd hf
      refine q_kV (M2 := m_X7_readSum) (As := [.int (0 : Int32)]) (b := 450) (v2 := none) ok_X7_readStep ok_X7_readSum cv_X7_readSum (ct_X7_readSum_450 hq_readValue hq_readSum hr52) rfl rfl (Or.inl rfl) rfl rfl rfl rfl (Nat.le_trans (Nat.le_of_ble_eq_true rfl) hd) (Nat.le_of_ble_eq_true rfl) (Nat.le_of_ble_eq_true rfl) (Nat.le_of_ble_eq_true rfl) (fun x hx => absurd hx List.not_mem_nil) (q_nmL0 _) (q_nmS0 _) rfl (pos' := 40) (st' := []) (lI' := [(426, r52.1), (429, r52.2.1), (450, r52.2.2.1)]) (lE' := [(428, r52.2.2.2)]) rfl rfl rfl rfl ?_
      refine q_blk 4 [] (c' := q_kc (t, 0, m, z, N, ext, rx, L) (q_tW I 430 (q_u2 (q_u2 r46.2.2.1 r46.1 1 r49.1) r46.1 4 (r46.2.1 5))) (q_tW E 430 r46.2.2.2) 44 [some (.ref 450), some (.ref x1), some (.ref (430 + r46.1))] [.int (r52.1 5), .ref (430 + r46.1)] [(426, r52.1), (429, r52.2.1), (450, r52.2.2.1)] [(428, r52.2.2.2)]) ok_X7_readStep rfl q_cn ?_
      refine q_kpT (pos' := 45) ok_X7_readStep rfl (q_t20_lt hu48) rfl rfl rfl rfl ?_
      refine q_blk 3 [] (c' := q_kc (t, 0, m, z, N, ext, rx, L) (q_tW I 430 (q_u2 (q_u2 (q_u2 r46.2.2.1 r46.1 1 r49.1) r46.1 4 (r46.2.1 5)) r46.1 5 (r52.1 5))) (q_tW E 430 r46.2.2.2) 48 [some (.ref 450), some (.ref x1), some (.ref (430 + r46.1))] [.ref 14, .ref 450, .ref (430 + r46.1)] [(426, r52.1), (429, r52.2.1), (450, r52.2.2.1)] [(428, r52.2.2.2)]) ok_X7_readStep rfl q_cn ?_
      obtain ⟨r53, hr53, hf⟩ := q_bd hf
      refine q_kV (M2 := m_X7_readRope) (As := [.ref 14]) (b := 450) (v2 := some (.int r53.1)) ok_X7_readStep ok_X7_readRope cv_X7_readRope (ct_X7_readRope_450 (d := 5) (Nat.le_refl _) hr53) rfl rfl (Or.inl rfl) rfl rfl rfl rfl (Nat.le_trans (Nat.le_of_ble_eq_true rfl) hd) (Nat.le_of_ble_eq_true rfl) (Nat.le_of_ble_eq_true rfl) (Nat.le_of_ble_eq_true rfl) (fun x hx => absurd hx List.not_mem_nil) (q_nmL0 _) (q_nmS0 _) rfl (pos' := 49) (st' := [.int r53.1, .ref (430 + r46.1)]) (lI' := [(426, r52.1), (429, r52.2.1), (450, r53.2)]) (lE' := [(428, r52.2.2.2)]) rfl rfl rfl rfl ?_
      refine q_kpT (pos' := 50) ok_X7_readStep rfl (q_t20_lt hu48) rfl rfl rfl rfl ?_
      refine q_blk 2 [] (c' := q_kc (t, 0, m, z, N, ext, rx, L) (q_tW I 430 (q_u2 (q_u2 (q_u2 (q_u2 r46.2.2.1 r46.1 1 r49.1) r46.1 4 (r46.2.1 5)) r46.1 5 (r52.1 5)) r46.1 3 r53.1)) (q_tW E 430 r46.2.2.2) 94 [some (.ref 450), some (.ref x1), some (.ref (430 + r46.1))] [.ref 450] [(426, r52.1), (429, r52.2.1), (450, r53.2)] [(428, r52.2.2.2)]) ok_X7_readStep rfl q_cn ?_
      obtain ⟨r54, hr54, hf⟩ := q_bd hf
      obtain ⟨u55, hu56, hf⟩ := q_bd hf
      refine q_kV (M2 := m_X7_sign) (As := []) (b := 450) (v2 := some (.ref r54)) ok_X7_readStep ok_X7_sign cv_X7_sign (ct_X7_sign_450 (d := 2) (Nat.le_refl _) hr54) rfl rfl (Or.inl rfl) rfl rfl rfl rfl (Nat.le_trans (Nat.le_of_ble_eq_true rfl) hd) (Nat.le_of_ble_eq_true rfl) (Nat.le_of_ble_eq_true rfl) (Nat.le_of_ble_eq_true rfl) (fun x hx => absurd hx List.not_mem_nil) (q_nmL0 _) (q_nmS0 _) rfl (pos' := 95) (st' := [.ref r54]) (lI' := [(426, r52.1), (429, r52.2.1), (450, r53.2)]) (lE' := [(428, r52.2.2.2)]) rfl rfl rfl rfl ?_
      refine q_blk 1 [] (c' := q_kc (t, 0, m, z, N, ext, rx, L) (q_tW I 430 (q_u2 (q_u2 (q_u2 (q_u2 r46.2.2.1 r46.1 1 r49.1) r46.1 4 (r46.2.1 5)) r46.1 5 (r52.1 5)) r46.1 3 r53.1)) (q_tW E 430 r46.2.2.2) 96 [some (.ref 450), some (.ref x1), some (.ref (430 + r46.1))] [.ref 19, .ref r54] [(426, r52.1), (429, r52.2.1), (450, r53.2)] [(428, r52.2.2.2)]) ok_X7_readStep rfl q_cn ?_
      refine q_o_acmp_ne ok_X7_readStep rfl (q_e49_lt hu56) (Nat.lt_of_lt_of_le (Nat.lt_succ_self _) (Nat.le_of_ble_eq_true rfl)) (fun h57 => ?_) (fun h57 => ?_)
      · have hf := q_in h57 hf
        cases hf
        exact q_krv ok_X7_readStep rfl rfl (Nat.le_of_ble_eq_true rfl) (Nat.le_of_ble_eq_true rfl) ⟨rfl, q_hpe (q_fin [426, 429, 450] rfl) (q_fin [428] rfl)⟩
      · have hf := q_ip h57 hf
        refine q_blk 10 [] (c' := q_kc (t, 0, m, z, N, ext, rx, L) (q_tW I 430 (q_u2 (q_u2 (q_u2 (q_u2 r46.2.2.1 r46.1 1 r49.1) r46.1 4 (r46.2.1 5)) r46.1 5 (r52.1 5)) r46.1 3 r53.1)) (q_tW E 430 r46.2.2.2) 107 [some (.ref 450), some (.ref x1), some (.ref (430 + r46.1))] [.int (r52.1 5), .ref (430 + r46.1)] [(426, r52.1), (429, r52.2.1), (450, (q_up r53.2 3 ((r53.2 3) + (1 : Int32))))] [(428, r52.2.2.2)]) ok_X7_readStep rfl q_cn ?_
        refine q_kpT (pos' := 108) ok_X7_readStep rfl (q_t20_lt hu48) rfl rfl rfl rfl ?_
        refine q_blk 2 [] (c' := q_kc (t, 0, m, z, N, ext, rx, L) (q_tW I 430 (q_u2 (q_u2 (q_u2 (q_u2 (q_u2 r46.2.2.1 r46.1 1 r49.1) r46.1 4 (r46.2.1 5)) r46.1 5 (r52.1 5)) r46.1 3 r53.1) r46.1 6 (r52.1 5))) (q_tW E 430 r46.2.2.2) 110 [some (.ref 450), some (.ref x1), some (.ref (430 + r46.1))] [.int (0 : Int32), .ref 450] [(426, r52.1), (429, r52.2.1), (450, (q_up r53.2 3 ((r53.2 3) + (1 : Int32))))] [(428, r52.2.2.2)]) ok_X7_readStep rfl q_cn ?_
        obtain ⟨r58, hr58, hf⟩ := q_bd hf
        refine q_kV (M2 := m_X7_readTest) (As := [.int (0 : Int32)]) (b := 450) (v2 := none) ok_X7_readStep ok_X7_readTest cv_X7_readTest (ct_X7_readTest_450 hq_readSingle hq_readTest hq_readValue hq_readSum hr58) rfl rfl (Or.inl rfl) rfl rfl rfl rfl (Nat.le_trans (Nat.le_of_ble_eq_true rfl) hd) (Nat.le_of_ble_eq_true rfl) (Nat.le_of_ble_eq_true rfl) (Nat.le_of_ble_eq_true rfl) (fun x hx => absurd hx List.not_mem_nil) (q_nmL0 _) (q_nmS0 _) rfl (pos' := 111) (st' := []) (lI' := [(426, r58.1), (429, r58.2.1), (450, r58.2.2.1)]) (lE' := [(428, r58.2.2.2)]) rfl rfl rfl rfl ?_
        refine q_blk 4 [] (c' := q_kc (t, 0, m, z, N, ext, rx, L) (q_tW I 430 (q_u2 (q_u2 (q_u2 (q_u2 (q_u2 r46.2.2.1 r46.1 1 r49.1) r46.1 4 (r46.2.1 5)) r46.1 5 (r52.1 5)) r46.1 3 r53.1) r46.1 6 (r52.1 5))) (q_tW E 430 r46.2.2.2) 115 [some (.ref 450), some (.ref x1), some (.ref (430 + r46.1))] [.int (r58.1 5), .ref (430 + r46.1)] [(426, r58.1), (429, r58.2.1), (450, r58.2.2.1)] [(428, r58.2.2.2)]) ok_X7_readStep rfl q_cn ?_
        refine q_kpT (pos' := 116) ok_X7_readStep rfl (q_t20_lt hu48) rfl rfl rfl rfl ?_
        cases hf
        exact q_krv ok_X7_readStep rfl rfl (Nat.le_of_ble_eq_true rfl) (Nat.le_of_ble_eq_true rfl) ⟨rfl, q_hpe (q_fin [426, 429, 450] rfl) (q_fin [428] rfl)⟩
set_option maxHeartbeats 4000000 in
theorem ct_X7_readNewHook_450 {g : q_G} {t : Nat} {m : Nat} {z : Nat} {N : Nat} {ext : Nat → q_Sh} {rx : Nat → Nat → Option Nat} {L : Nat → Nat → Int64} {d : Nat} (hd : 4 ≤ d)  {I : Nat → Nat → Int32} {E : Nat → Nat → Option Nat} {r0 : (Nat → Int32) × (Nat → Int32) × (Nat → Int32)} (hf : f_X7_readNewHook (I 426) (I 450) (I 451) (I 452) (I 456) (E 453) = some r0) : q_Ct g m_X7_readNewHook d 0 0 [] [.ref 450] (q_hp (t, 0, m, z, N, ext, rx, L) I E) (fun o h' => o = .inl none ∧ h' = q_hp (t, 0, m, z, N, ext, rx, L) (q_ws I [(426, r0.1), (450, r0.2.1), (451, r0.2.2)]) (q_ws E [])) := by
  rw [f_X7_readNewHook] at hf
  refine q_Ct_of ok_X7_readNewHook (Nat.le_of_ble_eq_true rfl) ?_ _ rfl rfl
  change q_J g m_X7_readNewHook d 0 0 _ [] _ 0 0 (q_kc (t, 0, m, z, N, ext, rx, L) I E 0 [some (.ref 450), none, none] [] [] [])
  refine q_blk 2 [] (c' := q_kc (t, 0, m, z, N, ext, rx, L) I E 2 [some (.ref 450), none, none] [.ref 3, .ref 450] [] []) ok_X7_readNewHook rfl q_cn ?_
  obtain ⟨r1, hr1, hf⟩ := q_bd hf
  refine q_kV (M2 := m_X7_take) (As := [.ref 3]) (b := 450) (v2 := some (.int (q_bz r1.1))) ok_X7_readNewHook ok_X7_take cv_X7_take (ct_X7_take_450 (d := 3) (Nat.le_refl _) hr1) rfl rfl (Or.inl rfl) rfl rfl rfl rfl (Nat.le_trans (Nat.le_of_ble_eq_true rfl) hd) (Nat.le_of_ble_eq_true rfl) (Nat.le_of_ble_eq_true rfl) (Nat.le_of_ble_eq_true rfl) (fun x hx => absurd hx List.not_mem_nil) (q_nmL0 _) (q_nmS0 _) rfl (pos' := 3) (st' := [.int (q_bz r1.1)]) (lI' := [(450, r1.2)]) (lE' := []) rfl rfl rfl rfl ?_
  refine q_blf 0 [] (a := q_kc (t, 0, m, z, N, ext, rx, L) I E 5 [some (.ref 450), none, none] [] [(450, r1.2)] []) (b := q_kc (t, 0, m, z, N, ext, rx, L) I E 4 [some (.ref 450), none, none] [] [(450, r1.2)] []) (P := ¬ (q_bz r1.1) = 0) ok_X7_readNewHook rfl q_cn (fun h2 => ?_) (fun h2 => ?_)
  · have hf := q_ip h2 hf
    refine q_blk 6 [] (c' := q_kc (t, 0, m, z, N, ext, rx, L) I E 11 [some (.ref 450), none, none] [.int ((r1.2 3) - (1 : Int32)), .ref 452] [(450, r1.2)] []) ok_X7_readNewHook rfl q_cn ?_
    obtain ⟨r3, hr3, hf⟩ := q_bd hf
    refine q_kV (M2 := m_X11_value) (As := [.int ((r1.2 3) - (1 : Int32))]) (b := 452) (v2 := some (.int r3)) ok_X7_readNewHook ok_X11_value cv_X11_value (ct_X11_value_452 (d := 1) (Nat.le_refl _) hr3) rfl rfl (Or.inl rfl) rfl rfl rfl rfl (Nat.le_trans (Nat.le_of_ble_eq_true rfl) hd) (Nat.le_of_ble_eq_true rfl) (Nat.le_of_ble_eq_true rfl) (Nat.le_of_ble_eq_true rfl) (fun x hx => absurd hx List.not_mem_nil) (q_nmL0 _) (q_nmS0 _) rfl (pos' := 12) (st' := [.int r3]) (lI' := [(450, r1.2)]) (lE' := []) rfl rfl rfl rfl ?_
    refine q_blk 7 [] (c' := q_kc (t, 0, m, z, N, ext, rx, L) I E 19 [some (.ref 450), some (.int r3), some (.int ((I 426) 3))] [.int r3, .ref 450] [(450, r1.2)] []) ok_X7_readNewHook rfl q_cn ?_
    obtain ⟨r4, hr4, hf⟩ := q_bd hf
    refine q_kV (M2 := m_X7_hookNamed) (As := [.int r3]) (b := 450) (v2 := some (.int r4)) ok_X7_readNewHook ok_X7_hookNamed cv_X7_hookNamed (ct_X7_hookNamed_450 (d := 1) (Nat.le_refl _) hr4) rfl rfl (Or.inl rfl) rfl rfl rfl rfl (Nat.le_trans (Nat.le_of_ble_eq_true rfl) hd) (Nat.le_of_ble_eq_true rfl) (Nat.le_of_ble_eq_true rfl) (Nat.le_of_ble_eq_true rfl) (fun x hx => absurd hx List.not_mem_nil) (q_nmL0 _) (q_nmS0 _) rfl (pos' := 20) (st' := [.int r4]) (lI' := [(450, r1.2)]) (lE' := []) rfl rfl rfl rfl ?_
    refine q_blf 1 [] (a := q_kc (t, 0, m, z, N, ext, rx, L) I E 30 [some (.ref 450), some (.int r3), some (.int ((I 426) 3))] [] [(450, r1.2)] []) (b := q_kc (t, 0, m, z, N, ext, rx, L) I E 22 [some (.ref 450), some (.int r3), some (.int ((I 426) 3))] [] [(450, r1.2)] []) (P := r4 = (-1 : Int32)) ok_X7_readNewHook rfl q_cn (fun h5 => ?_) (fun h5 => ?_)
    · have hf := q_ip h5 hf
      refine q_blf 1 [] (a := q_kc (t, 0, m, z, N, ext, rx, L) I E 35 [some (.ref 450), some (.int r3), some (.int ((I 426) 3))] [] [(450, r1.2)] []) (b := q_kc (t, 0, m, z, N, ext, rx, L) I E 32 [some (.ref 450), some (.int r3), some (.int ((I 426) 3))] [] [(450, r1.2)] []) (P := ((I 426) 3) < 0) ok_X7_readNewHook rfl q_cn (fun h6 => ?_) (fun h6 => ?_)
      · have hf := q_ip h6 hf
        refine q_blk 6 [] (c' := q_kc (t, 0, m, z, N, ext, rx, L) I E 41 [some (.ref 450), some (.int r3), some (.int ((I 426) 3))] [.int ((r1.2 3) - (1 : Int32)), .int (4 : Int32), .ref 450] [(450, r1.2)] []) ok_X7_readNewHook rfl q_cn ?_
        obtain ⟨r7, hr7, hf⟩ := q_bd hf
        refine q_kV (M2 := m_X7_blame) (As := [.int (4 : Int32), .int ((r1.2 3) - (1 : Int32))]) (b := 450) (v2 := none) ok_X7_readNewHook ok_X7_blame cv_X7_blame (ct_X7_blame_450 (d := 1) (Nat.le_refl _) hr7) rfl rfl (Or.inl rfl) rfl rfl rfl rfl (Nat.le_trans (Nat.le_of_ble_eq_true rfl) hd) (Nat.le_of_ble_eq_true rfl) (Nat.le_of_ble_eq_true rfl) (Nat.le_of_ble_eq_true rfl) (fun x hx => absurd hx List.not_mem_nil) (q_nmL0 _) (q_nmS0 _) rfl (pos' := 42) (st' := []) (lI' := [(450, r7)]) (lE' := []) rfl rfl rfl rfl ?_
        refine q_blk 1 [] (c' := q_kc (t, 0, m, z, N, ext, rx, L) I E 54 [some (.ref 450), some (.int r3), some (.int ((I 426) 3))] [] [(450, r7)] []) ok_X7_readNewHook rfl q_cn ?_
        cases hf
        exact q_krv ok_X7_readNewHook rfl rfl (Nat.le_of_ble_eq_true rfl) (Nat.le_of_ble_eq_true rfl) ⟨rfl, q_hpe (q_fin [426, 450, 451] rfl) (q_fin [] rfl)⟩
      · have hf := q_in h6 hf
        refine q_blf 2 [] (a := q_kc (t, 0, m, z, N, ext, rx, L) I E 43 [some (.ref 450), some (.int r3), some (.int ((I 426) 3))] [] [(450, r1.2)] []) (b := q_kc (t, 0, m, z, N, ext, rx, L) I E 35 [some (.ref 450), some (.int r3), some (.int ((I 426) 3))] [] [(450, r1.2)] []) (P := ((I 426) 3) < (6 : Int32)) ok_X7_readNewHook rfl q_cn (fun h8 => ?_) (fun h8 => ?_)
        · have hf := q_ip h8 hf
          obtain ⟨j9, hj9, hf⟩ := q_bd hf
          refine q_blk 11 [j9] (c' := q_kc (t, 0, m, z, N, ext, rx, L) I E 54 [some (.ref 450), some (.int r3), some (.int ((I 426) 3))] [] [(426, (q_up (I 426) 3 (((I 426) 3) + (1 : Int32)))), (450, r1.2), (451, (q_up (I 451) j9 r3))] []) ok_X7_readNewHook rfl (q_cc hj9 q_cn) ?_
          cases hf
          exact q_krv ok_X7_readNewHook rfl rfl (Nat.le_of_ble_eq_true rfl) (Nat.le_of_ble_eq_true rfl) ⟨rfl, q_hpe (q_fin [426, 450, 451] rfl) (q_fin [] rfl)⟩
        · have hf := q_in h8 hf
          refine q_blk 6 [] (c' := q_kc (t, 0, m, z, N, ext, rx, L) I E 41 [some (.ref 450), some (.int r3), some (.int ((I 426) 3))] [.int ((r1.2 3) - (1 : Int32)), .int (4 : Int32), .ref 450] [(450, r1.2)] []) ok_X7_readNewHook rfl q_cn ?_
          obtain ⟨r10, hr10, hf⟩ := q_bd hf
          refine q_kV (M2 := m_X7_blame) (As := [.int (4 : Int32), .int ((r1.2 3) - (1 : Int32))]) (b := 450) (v2 := none) ok_X7_readNewHook ok_X7_blame cv_X7_blame (ct_X7_blame_450 (d := 1) (Nat.le_refl _) hr10) rfl rfl (Or.inl rfl) rfl rfl rfl rfl (Nat.le_trans (Nat.le_of_ble_eq_true rfl) hd) (Nat.le_of_ble_eq_true rfl) (Nat.le_of_ble_eq_true rfl) (Nat.le_of_ble_eq_true rfl) (fun x hx => absurd hx List.not_mem_nil) (q_nmL0 _) (q_nmS0 _) rfl (pos' := 42) (st' := []) (lI' := [(450, r10)]) (lE' := []) rfl rfl rfl rfl ?_
          refine q_blk 1 [] (c' := q_kc (t, 0, m, z, N, ext, rx, L) I E 54 [some (.ref 450), some (.int r3), some (.int ((I 426) 3))] [] [(450, r10)] []) ok_X7_readNewHook rfl q_cn ?_
          cases hf
          exact q_krv ok_X7_readNewHook rfl rfl (Nat.le_of_ble_eq_true rfl) (Nat.le_of_ble_eq_true rfl) ⟨rfl, q_hpe (q_fin [426, 450, 451] rfl) (q_fin [] rfl)⟩
    · have hf := q_in h5 hf
      refine q_blk 6 [] (c' := q_kc (t, 0, m, z, N, ext, rx, L) I E 28 [some (.ref 450), some (.int r3), some (.int ((I 426) 3))] [.int ((r1.2 3) - (1 : Int32)), .int (2 : Int32), .ref 450] [(450, r1.2)] []) ok_X7_readNewHook rfl q_cn ?_
      obtain ⟨r11, hr11, hf⟩ := q_bd hf
      refine q_kV (M2 := m_X7_blame) (As := [.int (2 : Int32), .int ((r1.2 3) - (1 : Int32))]) (b := 450) (v2 := none) ok_X7_readNewHook ok_X7_blame cv_X7_blame (ct_X7_blame_450 (d := 1) (Nat.le_refl _) hr11) rfl rfl (Or.inl rfl) rfl rfl rfl rfl (Nat.le_trans (Nat.le_of_ble_eq_true rfl) hd) (Nat.le_of_ble_eq_true rfl) (Nat.le_of_ble_eq_true rfl) (Nat.le_of_ble_eq_true rfl) (fun x hx => absurd hx List.not_mem_nil) (q_nmL0 _) (q_nmS0 _) rfl (pos' := 29) (st' := []) (lI' := [(450, r11)]) (lE' := []) rfl rfl rfl rfl ?_
      refine q_blk 1 [] (c' := q_kc (t, 0, m, z, N, ext, rx, L) I E 54 [some (.ref 450), some (.int r3), some (.int ((I 426) 3))] [] [(450, r11)] []) ok_X7_readNewHook rfl q_cn ?_
      cases hf
      exact q_krv ok_X7_readNewHook rfl rfl (Nat.le_of_ble_eq_true rfl) (Nat.le_of_ble_eq_true rfl) ⟨rfl, q_hpe (q_fin [426, 450, 451] rfl) (q_fin [] rfl)⟩
  · have hf := q_in h2 hf
    cases hf
    exact q_krv ok_X7_readNewHook rfl rfl (Nat.le_of_ble_eq_true rfl) (Nat.le_of_ble_eq_true rfl) ⟨rfl, q_hpe (q_fin [426, 450, 451] rfl) (q_fin [] rfl)⟩
set_option maxHeartbeats 4000000 in
theorem ct_X7_readSetting_450 {g : q_G} {t : Nat} {m : Nat} {z : Nat} {N : Nat} {ext : Nat → q_Sh} {rx : Nat → Nat → Option Nat} {L : Nat → Nat → Int64} {d : Nat} (hd : 5 ≤ d)  {I : Nat → Nat → Int32} {E : Nat → Nat → Option Nat} {r0 : (Nat → Int32) × (Nat → Int32) × (Nat → Int32)} (hf : f_X7_readSetting (I 426) (I 450) (I 451) (I 452) (I 456) (E 453) = some r0) : q_Ct g m_X7_readSetting d 0 0 [] [.ref 450] (q_hp (t, 0, m, z, N, ext, rx, L) I E) (fun o h' => o = .inl none ∧ h' = q_hp (t, 0, m, z, N, ext, rx, L) (q_ws I [(426, r0.1), (450, r0.2.1), (451, r0.2.2)]) (q_ws E [])) := by
  rw [f_X7_readSetting] at hf
  refine q_Ct_of ok_X7_readSetting (Nat.le_of_ble_eq_true rfl) ?_ _ rfl rfl
  change q_J g m_X7_readSetting d 0 0 _ [] _ 0 0 (q_kc (t, 0, m, z, N, ext, rx, L) I E 0 [some (.ref 450)] [] [] [])
  refine q_blk 2 [] (c' := q_kc (t, 0, m, z, N, ext, rx, L) I E 2 [some (.ref 450)] [.ref 450, .ref 50] [] []) ok_X7_readSetting rfl q_cn ?_
  obtain ⟨r1, hr1, hf⟩ := q_bd hf
  obtain ⟨u2, hu3, hf⟩ := q_bd hf
  refine q_kV (M2 := m_X7_sign) (As := []) (b := 450) (v2 := some (.ref r1)) ok_X7_readSetting ok_X7_sign cv_X7_sign (ct_X7_sign_450 (d := 2) (Nat.le_refl _) hr1) rfl rfl (Or.inl rfl) rfl rfl rfl rfl (Nat.le_trans (Nat.le_of_ble_eq_true rfl) hd) (Nat.le_of_ble_eq_true rfl) (Nat.le_of_ble_eq_true rfl) (Nat.le_of_ble_eq_true rfl) (fun x hx => absurd hx List.not_mem_nil) (q_nmL0 _) (q_nmS0 _) rfl (pos' := 3) (st' := [.ref r1, .ref 50]) (lI' := []) (lE' := []) rfl rfl rfl rfl ?_
  refine q_kord (pos' := 4) ok_X7_readSetting rfl (Or.inl rfl) (q_e49_lt hu3) (Nat.le_trans (Nat.le_of_ble_eq_true rfl) hd) (Nat.le_of_ble_eq_true rfl) (Nat.le_of_ble_eq_true rfl) rfl ?_
  obtain ⟨j4, hj4, hf⟩ := q_bd hf
  refine q_blk 1 [j4] (c' := q_kc (t, 0, m, z, N, ext, rx, L) I E 5 [some (.ref 450)] [.int (q_sw j4)] [] []) ok_X7_readSetting rfl (q_cc hj4 q_cn) ?_
  refine q_ksw [6, 20, 34, 48] ok_X7_readSetting rfl (dp := 57) rfl (fun ix t9 ht9 hx9 => ?_) (fun hx9 => ?_) (by decide) (by decide)
  · match ix, ht9 with
    | 0, ht9 =>
      have hx9 : (q_sw j4) = 1 := hx9
      cases ht9
      have hf := q_ip hx9 hf
      refine q_blk 11 [] (c' := q_kc (t, 0, m, z, N, ext, rx, L) I E 17 [some (.ref 450)] [.int (64 : Int32), .int (8 : Int32), .ref 450, .ref 426] [(450, (q_up (I 450) 3 (((I 450) 3) + (1 : Int32))))] []) ok_X7_readSetting rfl q_cn ?_
      obtain ⟨r5, hr5, hf⟩ := q_bd hf
      refine q_kV (M2 := m_X7_readNumber) (As := [.int (8 : Int32), .int (64 : Int32)]) (b := 450) (v2 := some (.int r5.1)) ok_X7_readSetting ok_X7_readNumber cv_X7_readNumber (ct_X7_readNumber_450 (d := 4) (Nat.le_refl _) hr5) rfl rfl (Or.inl rfl) rfl rfl rfl rfl (Nat.le_trans (Nat.le_of_ble_eq_true rfl) hd) (Nat.le_of_ble_eq_true rfl) (Nat.le_of_ble_eq_true rfl) (Nat.le_of_ble_eq_true rfl) (fun x hx => absurd hx List.not_mem_nil) (q_nmL0 _) (q_nmS0 _) rfl (pos' := 18) (st' := [.int r5.1, .ref 426]) (lI' := [(450, r5.2)]) (lE' := []) rfl rfl rfl rfl ?_
      refine q_blk 2 [] (c' := q_kc (t, 0, m, z, N, ext, rx, L) I E 59 [some (.ref 450)] [] [(426, (q_up (I 426) 0 r5.1)), (450, r5.2)] []) ok_X7_readSetting rfl q_cn ?_
      cases hf
      exact q_krv ok_X7_readSetting rfl rfl (Nat.le_of_ble_eq_true rfl) (Nat.le_of_ble_eq_true rfl) ⟨rfl, q_hpe (q_fin [426, 450, 451] rfl) (q_fin [] rfl)⟩
    | 1, ht9 =>
      have hx9 : (q_sw j4) = 2 := hx9
      cases ht9
      have hf := q_in (fun hz9 => absurd (hx9.symm.trans hz9) (by decide)) hf
      have hf := q_ip hx9 hf
      refine q_blk 11 [] (c' := q_kc (t, 0, m, z, N, ext, rx, L) I E 31 [some (.ref 450)] [.int (64 : Int32), .int (0 : Int32), .ref 450, .ref 426] [(450, (q_up (I 450) 3 (((I 450) 3) + (1 : Int32))))] []) ok_X7_readSetting rfl q_cn ?_
      obtain ⟨r6, hr6, hf⟩ := q_bd hf
      refine q_kV (M2 := m_X7_readNumber) (As := [.int (0 : Int32), .int (64 : Int32)]) (b := 450) (v2 := some (.int r6.1)) ok_X7_readSetting ok_X7_readNumber cv_X7_readNumber (ct_X7_readNumber_450 (d := 4) (Nat.le_refl _) hr6) rfl rfl (Or.inl rfl) rfl rfl rfl rfl (Nat.le_trans (Nat.le_of_ble_eq_true rfl) hd) (Nat.le_of_ble_eq_true rfl) (Nat.le_of_ble_eq_true rfl) (Nat.le_of_ble_eq_true rfl) (fun x hx => absurd hx List.not_mem_nil) (q_nmL0 _) (q_nmS0 _) rfl (pos' := 32) (st' := [.int r6.1, .ref 426]) (lI' := [(450, r6.2)]) (lE' := []) rfl rfl rfl rfl ?_
      refine q_blk 2 [] (c' := q_kc (t, 0, m, z, N, ext, rx, L) I E 59 [some (.ref 450)] [] [(426, (q_up (I 426) 1 r6.1)), (450, r6.2)] []) ok_X7_readSetting rfl q_cn ?_
      cases hf
      exact q_krv ok_X7_readSetting rfl rfl (Nat.le_of_ble_eq_true rfl) (Nat.le_of_ble_eq_true rfl) ⟨rfl, q_hpe (q_fin [426, 450, 451] rfl) (q_fin [] rfl)⟩
    | 2, ht9 =>
      have hx9 : (q_sw j4) = 3 := hx9
      cases ht9
      have hf := q_in (fun hz9 => absurd (hx9.symm.trans hz9) (by decide)) hf
      have hf := q_in (fun hz9 => absurd (hx9.symm.trans hz9) (by decide)) hf
      have hf := q_ip hx9 hf
      refine q_blk 11 [] (c' := q_kc (t, 0, m, z, N, ext, rx, L) I E 45 [some (.ref 450)] [.int (5 : Int32), .int (0 : Int32), .ref 450, .ref 426] [(450, (q_up (I 450) 3 (((I 450) 3) + (1 : Int32))))] []) ok_X7_readSetting rfl q_cn ?_
      obtain ⟨r7, hr7, hf⟩ := q_bd hf
      refine q_kV (M2 := m_X7_readNumber) (As := [.int (0 : Int32), .int (5 : Int32)]) (b := 450) (v2 := some (.int r7.1)) ok_X7_readSetting ok_X7_readNumber cv_X7_readNumber (ct_X7_readNumber_450 (d := 4) (Nat.le_refl _) hr7) rfl rfl (Or.inl rfl) rfl rfl rfl rfl (Nat.le_trans (Nat.le_of_ble_eq_true rfl) hd) (Nat.le_of_ble_eq_true rfl) (Nat.le_of_ble_eq_true rfl) (Nat.le_of_ble_eq_true rfl) (fun x hx => absurd hx List.not_mem_nil) (q_nmL0 _) (q_nmS0 _) rfl (pos' := 46) (st' := [.int r7.1, .ref 426]) (lI' := [(450, r7.2)]) (lE' := []) rfl rfl rfl rfl ?_
      refine q_blk 2 [] (c' := q_kc (t, 0, m, z, N, ext, rx, L) I E 59 [some (.ref 450)] [] [(426, (q_up (I 426) 2 r7.1)), (450, r7.2)] []) ok_X7_readSetting rfl q_cn ?_
      cases hf
      exact q_krv ok_X7_readSetting rfl rfl (Nat.le_of_ble_eq_true rfl) (Nat.le_of_ble_eq_true rfl) ⟨rfl, q_hpe (q_fin [426, 450, 451] rfl) (q_fin [] rfl)⟩
    | 3, ht9 =>
      have hx9 : (q_sw j4) = 4 := hx9
      cases ht9
      have hf := q_in (fun hz9 => absurd (hx9.symm.trans hz9) (by decide)) hf
      have hf := q_in (fun hz9 => absurd (hx9.symm.trans hz9) (by decide)) hf
      have hf := q_in (fun hz9 => absurd (hx9.symm.trans hz9) (by decide)) hf
      have hf := q_ip hx9 hf
      refine q_blk 7 [] (c' := q_kc (t, 0, m, z, N, ext, rx, L) I E 55 [some (.ref 450)] [.ref 450] [(450, (q_up (I 450) 3 (((I 450) 3) + (1 : Int32))))] []) ok_X7_readSetting rfl q_cn ?_
      obtain ⟨r8, hr8, hf⟩ := q_bd hf
      refine q_kV (M2 := m_X7_readNewHook) (As := []) (b := 450) (v2 := none) ok_X7_readSetting ok_X7_readNewHook cv_X7_readNewHook (ct_X7_readNewHook_450 (d := 4) (Nat.le_refl _) hr8) rfl rfl (Or.inl rfl) rfl rfl rfl rfl (Nat.le_trans (Nat.le_of_ble_eq_true rfl) hd) (Nat.le_of_ble_eq_true rfl) (Nat.le_of_ble_eq_true rfl) (Nat.le_of_ble_eq_true rfl) (fun x hx => absurd hx List.not_mem_nil) (q_nmL0 _) (q_nmS0 _) rfl (pos' := 56) (st' := []) (lI' := [(426, r8.1), (450, r8.2.1), (451, r8.2.2)]) (lE' := []) rfl rfl rfl rfl ?_
      refine q_blk 1 [] (c' := q_kc (t, 0, m, z, N, ext, rx, L) I E 59 [some (.ref 450)] [] [(426, r8.1), (450, r8.2.1), (451, r8.2.2)] []) ok_X7_readSetting rfl q_cn ?_
      cases hf
      exact q_krv ok_X7_readSetting rfl rfl (Nat.le_of_ble_eq_true rfl) (Nat.le_of_ble_eq_true rfl) ⟨rfl, q_hpe (q_fin [426, 450, 451] rfl) (q_fin [] rfl)⟩
    | z9 + 4, ht9 => cases ht9
  · have hf := q_in (hx9 0 (by decide)) hf
    have hf := q_in (hx9 1 (by decide)) hf
    have hf := q_in (hx9 2 (by decide)) hf
    have hf := q_in (hx9 3 (by decide)) hf
    refine q_blk 1 [] (c' := q_kc (t, 0, m, z, N, ext, rx, L) I E 58 [some (.ref 450)] [.ref 450] [] []) ok_X7_readSetting rfl q_cn ?_
    obtain ⟨r9, hr9, hf⟩ := q_bd hf
    refine q_kV (M2 := m_X7_fail) (As := []) (b := 450) (v2 := none) ok_X7_readSetting ok_X7_fail cv_X7_fail (ct_X7_fail_450 (d := 1) (Nat.le_refl _) hr9) rfl rfl (Or.inl rfl) rfl rfl rfl rfl (Nat.le_trans (Nat.le_of_ble_eq_true rfl) hd) (Nat.le_of_ble_eq_true rfl) (Nat.le_of_ble_eq_true rfl) (Nat.le_of_ble_eq_true rfl) (fun x hx => absurd hx List.not_mem_nil) (q_nmL0 _) (q_nmS0 _) rfl (pos' := 59) (st' := []) (lI' := [(450, r9)]) (lE' := []) rfl rfl rfl rfl ?_
    cases hf
    exact q_krv ok_X7_readSetting rfl rfl (Nat.le_of_ble_eq_true rfl) (Nat.le_of_ble_eq_true rfl) ⟨rfl, q_hpe (q_fin [426, 450, 451] rfl) (q_fin [] rfl)⟩
