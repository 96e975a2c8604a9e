set_option maxHeartbeats 4000000 in
theorem lp_X11_isWritten_L2_452 {g : q_G} {d mc ms : Nat} {h0 : q_H} {Q : (Option Value ⊕ String) → q_H → Prop} {k n : Nat} {t : Nat} {r : Nat} {m : Nat} {z : Nat} {N : Nat} {ext : Nat → q_Sh} {rx : Nat → Nat → Option Nat} {L : Nat → Nat → Int64} (hd : 9 ≤ d) (hk : k ≤ mc) (hn : n ≤ ms)  {v1 : Nat} {v2 : Int32} (hl1 : q_isStr v1 = true ∧ v1 < 300) : ∀ (fu : Nat) {I : Nat → Nat → Int32} {E : Nat → Nat → Option Nat} {v3 : Int32} {r0 : Nat} (hf : f_X11_isWritten_L2 (I 401) (I 452) v1 v2 fu v3 = some r0) (hK0 : r0 = 0 → q_J g m_X11_isWritten d mc ms h0 [] Q k n (q_kc (t, r, m, z, N, ext, rx, L) I E 19 [none, none, none, none] [] [] [])) (hK1 : r0 = 1 → q_J g m_X11_isWritten d mc ms h0 [] Q k n (q_kc (t, r, m, z, N, ext, rx, L) I E 15 [none, none, none, none] [] [] [])), q_J g m_X11_isWritten d mc ms h0 [] Q k n (2, [some (.ref 452), some (.ref v1), some (.int v2), some (.int v3)], [], q_hp (t, r, m, z, N, ext, rx, L) I E) := by
  intro fu
  induction fu with
  | zero =>
    intro I E v3 r0 hf hK0 hK1
    rw [f_X11_isWritten_L2] at hf
    cases hf
  | succ fu ih =>
    intro I E v3 r0 hf hK0 hK1
    rw [f_X11_isWritten_L2] at hf
    change q_J g m_X11_isWritten d mc ms h0 [] Q k n (q_kc (t, r, m, z, N, ext, rx, L) I E 2 [some (.ref 452), some (.ref v1), some (.int v2), some (.int v3)] [] [] [])
    refine q_blk 2 [] (c' := q_kc (t, r, m, z, N, ext, rx, L) I E 4 [some (.ref 452), some (.ref v1), some (.int v2), some (.int v3)] [.ref v1, .int v3] [] []) ok_X11_isWritten rfl q_cn ?_
    refine q_kslen (pos' := 5) ok_X11_isWritten rfl (Or.inl rfl) hl1 (Nat.le_trans (Nat.le_of_ble_eq_true rfl) hd) (Nat.le_of_ble_eq_true rfl) hk hn rfl ?_
    refine q_blf 0 [] (a := q_kc (t, r, m, z, N, ext, rx, L) I E 19 [some (.ref 452), some (.ref v1), some (.int v2), some (.int v3)] [] [] []) (b := q_kc (t, r, m, z, N, ext, rx, L) I E 6 [some (.ref 452), some (.ref v1), some (.int v2), some (.int v3)] [] [] []) (P := (nI (q_str v1).length) ≤ v3) ok_X11_isWritten rfl q_cn (fun h1 => ?_) (fun h1 => ?_)
    · have hf := q_ip h1 hf
      refine q_less (ls' := [none, none, none, none]) (q_sb1 (q_sb1 (q_sb1 (q_sb1 q_sb0)))) ?_
      cases hf
      exact q_Jpad (q_pdw [] rfl rfl) (q_pdw [] rfl rfl) (hK0 rfl)
    · have hf := q_in h1 hf
      refine q_blk 4 [] (c' := q_kc (t, r, m, z, N, ext, rx, L) I E 10 [some (.ref 452), some (.ref v1), some (.int v2), some (.int v3)] [.int (v2 + v3), .ref 452] [] []) ok_X11_isWritten rfl q_cn ?_
      obtain ⟨r2, hr2, hf⟩ := q_bd hf
      refine q_kV (M2 := m_X11_at) (As := [.int (v2 + v3)]) (b := 452) (v2 := some (.int r2)) ok_X11_isWritten ok_X11_at cv_X11_at (ct_X11_at_452 (d := 1) (Nat.le_refl _) hr2) rfl rfl (Or.inl rfl) rfl rfl rfl rfl (Nat.le_trans (Nat.le_of_ble_eq_true rfl) hd) hk hn (Nat.le_of_ble_eq_true rfl) (fun x hx => absurd hx List.not_mem_nil) (q_nmL0 _) (q_nmS0 _) rfl (pos' := 11) (st' := [.int r2]) (lI' := []) (lE' := []) rfl rfl rfl rfl ?_
      refine q_blk 2 [] (c' := q_kc (t, r, m, z, N, ext, rx, L) I E 13 [some (.ref 452), some (.ref v1), some (.int v2), some (.int v3)] [.int v3, .ref v1, .int r2] [] []) ok_X11_isWritten rfl q_cn ?_
      obtain ⟨j3, hj3, hf⟩ := q_bd hf
      refine q_kschr (pos' := 14) ok_X11_isWritten rfl (Or.inl rfl) hl1 hj3 (Nat.le_trans (Nat.le_of_ble_eq_true rfl) hd) (Nat.le_of_ble_eq_true rfl) hk hn rfl ?_
      refine q_blf 0 [] (a := q_kc (t, r, m, z, N, ext, rx, L) I E 17 [some (.ref 452), some (.ref v1), some (.int v2), some (.int v3)] [] [] []) (b := q_kc (t, r, m, z, N, ext, rx, L) I E 15 [some (.ref 452), some (.ref v1), some (.int v2), some (.int v3)] [] [] []) (P := r2 = ((q_str v1).getD j3 0)) ok_X11_isWritten rfl q_cn (fun h4 => ?_) (fun h4 => ?_)
      · have hf := q_ip h4 hf
        refine q_blk 2 [] (c' := q_kc (t, r, m, z, N, ext, rx, L) I E 2 [some (.ref 452), some (.ref v1), some (.int v2), some (.int (v3 + 1))] [] [] []) ok_X11_isWritten rfl q_cn ?_
        exact ih (I := q_ws I []) (E := q_ws E []) hf (fun hz => q_Jmrg (q_mgw rfl rfl) (q_mgw rfl rfl) (hK0 hz)) (fun hz => q_Jmrg (q_mgw rfl rfl) (q_mgw rfl rfl) (hK1 hz))
      · have hf := q_in h4 hf
        refine q_less (ls' := [none, none, none, none]) (q_sb1 (q_sb1 (q_sb1 (q_sb1 q_sb0)))) ?_
        cases hf
        exact q_Jpad (q_pdw [] rfl rfl) (q_pdw [] rfl rfl) (hK1 rfl)
set_option maxHeartbeats 4000000 in
theorem ct_X11_isWritten_452 {g : q_G} {t : Nat} {r : Nat} {m : Nat} {z : Nat} {N : Nat} {ext : Nat → q_Sh} {rx : Nat → Nat → Option Nat} {L : Nat → Nat → Int64} {d : Nat} (hd : 9 ≤ d)  {I : Nat → Nat → Int32} {E : Nat → Nat → Option Nat} {x1 : Nat} {x2 : Int32} {r0 : Bool} (hf : f_X11_isWritten (I 401) (I 452) x1 x2 = some r0) : q_Ct g m_X11_isWritten d 0 0 [] [.ref 452, .ref x1, .int x2] (q_hp (t, r, m, z, N, ext, rx, L) I E) (fun o h' => o = .inl (some (.int (q_bz r0))) ∧ h' = q_hp (t, r, m, z, N, ext, rx, L) (q_ws I []) (q_ws E [])) := by
  rw [f_X11_isWritten] at hf
  refine q_Ct_of ok_X11_isWritten (Nat.le_of_ble_eq_true rfl) ?_ _ rfl rfl
  change q_J g m_X11_isWritten d 0 0 _ [] _ 0 0 (q_kc (t, r, m, z, N, ext, rx, L) I E 0 [some (.ref 452), some (.ref x1), some (.int x2), none] [] [] [])
  obtain ⟨ug1, hg1, hf⟩ := q_bd hf
  refine q_blk 2 [] (c' := q_kc (t, r, m, z, N, ext, rx, L) I E 2 [some (.ref 452), some (.ref x1), some (.int x2), some (.int (0 : Int32))] [] [] []) ok_X11_isWritten rfl q_cn ?_
  obtain ⟨r5, hr5, hf⟩ := q_bd hf
  refine lp_X11_isWritten_L2_452 (I := q_ws I []) (E := q_ws E []) hd (Nat.le_of_ble_eq_true rfl) (Nat.le_of_ble_eq_true rfl) (q_sok hg1) 4096 hr5 ?_ ?_
  · intro hz0
    have hf := q_ip hz0 hf
    refine q_Jmrg (lI' := []) (lE' := []) (q_mgw rfl rfl) (q_mgw rfl rfl) ?_
    refine q_blk 1 [] (c' := q_kc (t, r, m, z, N, ext, rx, L) I E 20 [none, none, none, none] [.int (1 : Int32)] [] []) ok_X11_isWritten rfl q_cn ?_
    cases hf
    exact q_kri ok_X11_isWritten rfl rfl rfl (Nat.le_of_ble_eq_true rfl) (Nat.le_of_ble_eq_true rfl) ⟨rfl, q_hpe (q_pdw [] rfl rfl) (q_pdw [] rfl rfl)⟩
  · intro hz1
    have hf := q_in (fun h9 => absurd (hz1.symm.trans h9) (by decide)) hf
    refine q_Jmrg (lI' := []) (lE' := []) (q_mgw rfl rfl) (q_mgw rfl rfl) ?_
    refine q_blk 1 [] (c' := q_kc (t, r, m, z, N, ext, rx, L) I E 16 [none, none, none, none] [.int (0 : Int32)] [] []) ok_X11_isWritten rfl q_cn ?_
    cases hf
    exact q_kri ok_X11_isWritten rfl rfl rfl (Nat.le_of_ble_eq_true rfl) (Nat.le_of_ble_eq_true rfl) ⟨rfl, q_hpe (q_pdw [] rfl rfl) (q_pdw [] rfl rfl)⟩
set_option maxHeartbeats 4000000 in
theorem lp_X11_writtenSign_L7_452 {g : q_G} {d mc ms : Nat} {h0 : q_H} {Q : (Option Value ⊕ String) → q_H → Prop} {k n : Nat} {t : Nat} {r : Nat} {m : Nat} {z : Nat} {N : Nat} {ext : Nat → q_Sh} {rx : Nat → Nat → Option Nat} {L : Nat → Nat → Int64} (hd : 10 ≤ d) (hk : k ≤ mc) (hn : n ≤ ms)  {v1 : Int32} {v2 : Int32} {v4 : Int32} : ∀ (fu : Nat) {I : Nat → Nat → Int32} {E : Nat → Nat → Option Nat} {v5 : Int32} {r0 : Nat × Nat} (hf : f_X11_writtenSign_L7 (I 401) (I 452) v1 v2 v4 fu v5 = some r0) (hK0 : r0.1 = 0 → q_J g m_X11_writtenSign d mc ms h0 [] Q k n (q_kc (t, r, m, z, N, ext, rx, L) I E 29 [none, none, none, none, none, none, none] [] [] [])) (hK1 : r0.1 = 1 → q_J g m_X11_writtenSign d mc ms h0 [] Q k n (q_kc (t, r, m, z, N, ext, rx, L) I E 25 [none, none, none, none, none, none, some (.ref r0.2)] [] [] [])), q_J g m_X11_writtenSign d mc ms h0 [] Q k n (7, [some (.ref 452), some (.int v1), some (.int v2), some (.ref 49), some (.int v4), some (.int v5), none], [], q_hp (t, r, m, z, N, ext, rx, L) I E) := by
  intro fu
  induction fu with
  | zero =>
    intro I E v5 r0 hf hK0 hK1
    rw [f_X11_writtenSign_L7] at hf
    cases hf
  | succ fu ih =>
    intro I E v5 r0 hf hK0 hK1
    rw [f_X11_writtenSign_L7] at hf
    change q_J g m_X11_writtenSign d mc ms h0 [] Q k n (q_kc (t, r, m, z, N, ext, rx, L) I E 7 [some (.ref 452), some (.int v1), some (.int v2), some (.ref 49), some (.int v4), some (.int v5), none] [] [] [])
    refine q_blf 2 [] (a := q_kc (t, r, m, z, N, ext, rx, L) I E 29 [some (.ref 452), some (.int v1), some (.int v2), some (.ref 49), some (.int v4), some (.int v5), none] [] [] []) (b := q_kc (t, r, m, z, N, ext, rx, L) I E 10 [some (.ref 452), some (.int v1), some (.int v2), some (.ref 49), some (.int v4), some (.int v5), none] [] [] []) (P := v4 ≤ v5) ok_X11_writtenSign rfl q_cn (fun h1 => ?_) (fun h1 => ?_)
    · have hf := q_ip h1 hf
      refine q_less (ls' := [none, none, none, none, none, none, none]) (q_sb1 (q_sb1 (q_sb1 (q_sb1 (q_sb1 (q_sb1 (q_sb1 q_sb0))))))) ?_
      cases hf
      exact q_Jpad (q_pdw [] rfl rfl) (q_pdw [] rfl rfl) (hK0 rfl)
    · have hf := q_in h1 hf
      obtain ⟨j2, hj2, hf⟩ := q_bd hf
      refine q_blk 5 [j2] (c' := q_kc (t, r, m, z, N, ext, rx, L) I E 15 [some (.ref 452), some (.int v1), some (.int v2), some (.ref 49), some (.int v4), some (.int v5), some (.ref j2)] [.ref j2] [] []) ok_X11_writtenSign rfl (q_cc hj2 q_cn) ?_
      refine q_kxt (pos' := 16) ok_X11_writtenSign rfl (q_ix_lt hj2) (Or.inl rfl) rfl ?_
      refine q_kslen (pos' := 17) ok_X11_writtenSign rfl (Or.inl rfl) (q_isSs (q_ix_lt hj2)) (Nat.le_trans (Nat.le_of_ble_eq_true rfl) hd) (Nat.le_of_ble_eq_true rfl) hk hn rfl ?_
      refine q_blf 1 [] (a := q_kc (t, r, m, z, N, ext, rx, L) I E 27 [some (.ref 452), some (.int v1), some (.int v2), some (.ref 49), some (.int v4), some (.int v5), some (.ref j2)] [] [] []) (b := q_kc (t, r, m, z, N, ext, rx, L) I E 19 [some (.ref 452), some (.int v1), some (.int v2), some (.ref 49), some (.int v4), some (.int v5), some (.ref j2)] [] [] []) (P := ¬ (nI (q_str (100 + j2)).length) = v2) ok_X11_writtenSign rfl q_cn (fun h3 => ?_) (fun h3 => ?_)
      · have hf := q_ip h3 hf
        refine q_blk 2 [] (c' := q_kc (t, r, m, z, N, ext, rx, L) I E 7 [some (.ref 452), some (.int v1), some (.int v2), some (.ref 49), some (.int v4), some (.int (v5 + 1)), some (.ref j2)] [] [] []) ok_X11_writtenSign rfl q_cn ?_
        refine q_less (ls' := [some (.ref 452), some (.int v1), some (.int v2), some (.ref 49), some (.int v4), some (.int (v5 + 1)), none]) (q_sb2 (q_sb2 (q_sb2 (q_sb2 (q_sb2 (q_sb2 (q_sb1 q_sb0))))))) ?_
        exact ih (I := q_ws I []) (E := q_ws E []) hf (fun hz => q_Jmrg (q_mgw rfl rfl) (q_mgw rfl rfl) (hK0 hz)) (fun hz => q_Jmrg (q_mgw rfl rfl) (q_mgw rfl rfl) (hK1 hz))
      · have hf := q_in h3 hf
        refine q_blk 2 [] (c' := q_kc (t, r, m, z, N, ext, rx, L) I E 21 [some (.ref 452), some (.int v1), some (.int v2), some (.ref 49), some (.int v4), some (.int v5), some (.ref j2)] [.ref j2, .ref 452] [] []) ok_X11_writtenSign rfl q_cn ?_
        refine q_kxt (pos' := 22) ok_X11_writtenSign rfl (q_ix_lt hj2) (Or.inl rfl) rfl ?_
        refine q_blk 1 [] (c' := q_kc (t, r, m, z, N, ext, rx, L) I E 23 [some (.ref 452), some (.int v1), some (.int v2), some (.ref 49), some (.int v4), some (.int v5), some (.ref j2)] [.int v1, .ref (100 + j2), .ref 452] [] []) ok_X11_writtenSign rfl q_cn ?_
        obtain ⟨r4, hr4, hf⟩ := q_bd hf
        refine q_kV (M2 := m_X11_isWritten) (As := [.ref (100 + j2), .int v1]) (b := 452) (v2 := some (.int (q_bz r4))) ok_X11_writtenSign ok_X11_isWritten cv_X11_isWritten (ct_X11_isWritten_452 (d := 9) (Nat.le_refl _) hr4) rfl rfl (Or.inl rfl) rfl rfl rfl rfl (Nat.le_trans (Nat.le_of_ble_eq_true rfl) hd) hk hn (Nat.le_of_ble_eq_true rfl) (fun x hx => absurd hx List.not_mem_nil) (q_nmL0 _) (q_nmS0 _) rfl (pos' := 24) (st' := [.int (q_bz r4)]) (lI' := []) (lE' := []) rfl rfl rfl rfl ?_
        refine q_blf 0 [] (a := q_kc (t, r, m, z, N, ext, rx, L) I E 27 [some (.ref 452), some (.int v1), some (.int v2), some (.ref 49), some (.int v4), some (.int v5), some (.ref j2)] [] [] []) (b := q_kc (t, r, m, z, N, ext, rx, L) I E 25 [some (.ref 452), some (.int v1), some (.int v2), some (.ref 49), some (.int v4), some (.int v5), some (.ref j2)] [] [] []) (P := (q_bz r4) = 0) ok_X11_writtenSign rfl q_cn (fun h5 => ?_) (fun h5 => ?_)
        · have hf := q_ip h5 hf
          refine q_blk 2 [] (c' := q_kc (t, r, m, z, N, ext, rx, L) I E 7 [some (.ref 452), some (.int v1), some (.int v2), some (.ref 49), some (.int v4), some (.int (v5 + 1)), some (.ref j2)] [] [] []) ok_X11_writtenSign rfl q_cn ?_
          refine q_less (ls' := [some (.ref 452), some (.int v1), some (.int v2), some (.ref 49), some (.int v4), some (.int (v5 + 1)), none]) (q_sb2 (q_sb2 (q_sb2 (q_sb2 (q_sb2 (q_sb2 (q_sb1 q_sb0))))))) ?_
          exact ih (I := q_ws I []) (E := q_ws E []) hf (fun hz => q_Jmrg (q_mgw rfl rfl) (q_mgw rfl rfl) (hK0 hz)) (fun hz => q_Jmrg (q_mgw rfl rfl) (q_mgw rfl rfl) (hK1 hz))
        · have hf := q_in h5 hf
          refine q_less (ls' := [none, none, none, none, none, none, some (.ref j2)]) (q_sb1 (q_sb1 (q_sb1 (q_sb1 (q_sb1 (q_sb1 (q_sb2 q_sb0))))))) ?_
          cases hf
          exact q_Jpad (q_pdw [] rfl rfl) (q_pdw [] rfl rfl) (hK1 rfl)
set_option maxHeartbeats 4000000 in
theorem ct_X11_writtenSign_452 {g : q_G} {t : Nat} {r : Nat} {m : Nat} {z : Nat} {N : Nat} {ext : Nat → q_Sh} {rx : Nat → Nat → Option Nat} {L : Nat → Nat → Int64} {d : Nat} (hd : 10 ≤ d)  {I : Nat → Nat → Int32} {E : Nat → Nat → Option Nat} {x1 : Int32} {x2 : Int32} {r0 : Nat} (hf : f_X11_writtenSign (I 401) (I 452) x1 x2 = some r0) : q_Ct g m_X11_writtenSign d 0 0 [] [.ref 452, .int x1, .int x2] (q_hp (t, r, m, z, N, ext, rx, L) I E) (fun o h' => o = .inl (some (.ref r0)) ∧ h' = q_hp (t, r, m, z, N, ext, rx, L) (q_ws I []) (q_ws E [])) := by
  rw [f_X11_writtenSign] at hf
  refine q_Ct_of ok_X11_writtenSign (Nat.le_of_ble_eq_true rfl) ?_ _ rfl rfl
  change q_J g m_X11_writtenSign d 0 0 _ [] _ 0 0 (q_kc (t, r, m, z, N, ext, rx, L) I E 0 [some (.ref 452), some (.int x1), some (.int x2), none, none, none, none] [] [] [])
  refine q_blk 7 [] (c' := q_kc (t, r, m, z, N, ext, rx, L) I E 7 [some (.ref 452), some (.int x1), some (.int x2), some (.ref 49), some (.int (nI 49)), some (.int (0 : Int32)), none] [] [] []) ok_X11_writtenSign rfl q_cn ?_
  obtain ⟨r6, hr6, hf⟩ := q_bd hf
  refine lp_X11_writtenSign_L7_452 (I := q_ws I []) (E := q_ws E []) hd (Nat.le_of_ble_eq_true rfl) (Nat.le_of_ble_eq_true rfl) 4096 hr6 ?_ ?_
  · intro hz0
    have hf := q_ip hz0 hf
    refine q_Jmrg (lI' := []) (lE' := []) (q_mgw rfl rfl) (q_mgw rfl rfl) ?_
    refine q_blk 1 [] (c' := q_kc (t, r, m, z, N, ext, rx, L) I E 30 [none, none, none, none, none, none, none] [.ref 1] [] []) ok_X11_writtenSign rfl q_cn ?_
    cases hf
    exact q_kra ok_X11_writtenSign rfl rfl (Nat.le_of_ble_eq_true rfl) (Nat.le_of_ble_eq_true rfl) ⟨rfl, q_hpe (q_pdw [] rfl rfl) (q_pdw [] rfl rfl)⟩
  · intro hz1
    have hf := q_in (fun h9 => absurd (hz1.symm.trans h9) (by decide)) hf
    obtain ⟨u7, hu8, hf⟩ := q_bd hf
    refine q_Jmrg (lI' := []) (lE' := []) (q_mgw rfl rfl) (q_mgw rfl rfl) ?_
    refine q_blk 1 [] (c' := q_kc (t, r, m, z, N, ext, rx, L) I E 26 [none, none, none, none, none, none, some (.ref r6.2)] [.ref r6.2] [] []) ok_X11_writtenSign rfl q_cn ?_
    cases hf
    exact q_kra ok_X11_writtenSign rfl rfl (Nat.le_of_ble_eq_true rfl) (Nat.le_of_ble_eq_true rfl) ⟨rfl, q_hpe (q_pdw [] rfl rfl) (q_pdw [] rfl rfl)⟩
set_option maxHeartbeats 4000000 in
theorem ct_X11_tokenLength_452 {g : q_G} {t : Nat} {r : Nat} {m : Nat} {z : Nat} {N : Nat} {ext : Nat → q_Sh} {rx : Nat → Nat → Option Nat} {L : Nat → Nat → Int64} {d : Nat} (hd : 11 ≤ d)  {I : Nat → Nat → Int32} {E : Nat → Nat → Option Nat} {x1 : Int32} {r0 : Int32} (hf : f_X11_tokenLength (I 401) (I 452) x1 = some r0) : q_Ct g m_X11_tokenLength d 0 0 [] [.ref 452, .int x1] (q_hp (t, r, m, z, N, ext, rx, L) I E) (fun o h' => o = .inl (some (.int r0)) ∧ h' = q_hp (t, r, m, z, N, ext, rx, L) (q_ws I []) (q_ws E [])) := by
  rw [f_X11_tokenLength] at hf
  refine q_Ct_of ok_X11_tokenLength (Nat.le_of_ble_eq_true rfl) ?_ _ rfl rfl
  change q_J g m_X11_tokenLength d 0 0 _ [] _ 0 0 (q_kc (t, r, m, z, N, ext, rx, L) I E 0 [some (.ref 452), some (.int x1)] [] [] [])
  refine q_blk 2 [] (c' := q_kc (t, r, m, z, N, ext, rx, L) I E 2 [some (.ref 452), some (.int x1)] [.int x1, .ref 452] [] []) ok_X11_tokenLength rfl q_cn ?_
  obtain ⟨r1, hr1, hf⟩ := q_bd hf
  refine q_kV (M2 := m_X11_at) (As := [.int x1]) (b := 452) (v2 := some (.int r1)) ok_X11_tokenLength ok_X11_at cv_X11_at (ct_X11_at_452 (d := 1) (Nat.le_refl _) hr1) rfl rfl (Or.inl rfl) rfl rfl rfl rfl (Nat.le_trans (Nat.le_of_ble_eq_true rfl) hd) (Nat.le_of_ble_eq_true rfl) (Nat.le_of_ble_eq_true rfl) (Nat.le_of_ble_eq_true rfl) (fun x hx => absurd hx List.not_mem_nil) (q_nmL0 _) (q_nmS0 _) rfl (pos' := 3) (st' := [.int r1]) (lI' := []) (lE' := []) rfl rfl rfl rfl ?_
  obtain ⟨r2, hr2, hf⟩ := q_bd hf
  refine q_kS (M2 := m_X11_isLetter) (As := [.int r1]) (v2 := some (.int (q_bz r2))) ok_X11_tokenLength ok_X11_isLetter cs_X11_isLetter (ct_X11_isLetter (d := 1) (Nat.le_refl _) hr2) rfl rfl (Or.inl rfl) (Nat.le_trans (Nat.le_of_ble_eq_true rfl) hd) (Nat.le_of_ble_eq_true rfl) (Nat.le_of_ble_eq_true rfl) (Nat.le_of_ble_eq_true rfl) (fun x hx => absurd hx List.not_mem_nil) (q_nmL0 _) (q_nmS0 _) rfl (pos' := 4) (st' := [.int (q_bz r2)]) (lI' := []) (lE' := []) rfl rfl rfl rfl ?_
  refine q_blf 0 [] (a := q_kc (t, r, m, z, N, ext, rx, L) I E 11 [some (.ref 452), some (.int x1)] [] [] []) (b := q_kc (t, r, m, z, N, ext, rx, L) I E 5 [some (.ref 452), some (.int x1)] [] [] []) (P := (q_bz r2) = 0) ok_X11_tokenLength rfl q_cn (fun h3 => ?_) (fun h3 => ?_)
  · have hf := q_ip h3 hf
    refine q_blk 2 [] (c' := q_kc (t, r, m, z, N, ext, rx, L) I E 13 [some (.ref 452), some (.int x1)] [.int x1, .ref 452] [] []) ok_X11_tokenLength rfl q_cn ?_
    obtain ⟨r4, hr4, hf⟩ := q_bd hf
    refine q_kV (M2 := m_X11_at) (As := [.int x1]) (b := 452) (v2 := some (.int r4)) ok_X11_tokenLength ok_X11_at cv_X11_at (ct_X11_at_452 (d := 1) (Nat.le_refl _) hr4) rfl rfl (Or.inl rfl) rfl rfl rfl rfl (Nat.le_trans (Nat.le_of_ble_eq_true rfl) hd) (Nat.le_of_ble_eq_true rfl) (Nat.le_of_ble_eq_true rfl) (Nat.le_of_ble_eq_true rfl) (fun x hx => absurd hx List.not_mem_nil) (q_nmL0 _) (q_nmS0 _) rfl (pos' := 14) (st' := [.int r4]) (lI' := []) (lE' := []) rfl rfl rfl rfl ?_
    obtain ⟨r5, hr5, hf⟩ := q_bd hf
    refine q_kS (M2 := m_X11_isDigit) (As := [.int r4]) (v2 := some (.int (q_bz r5))) ok_X11_tokenLength ok_X11_isDigit cs_X11_isDigit (ct_X11_isDigit (d := 1) (Nat.le_refl _) hr5) rfl rfl (Or.inl rfl) (Nat.le_trans (Nat.le_of_ble_eq_true rfl) hd) (Nat.le_of_ble_eq_true rfl) (Nat.le_of_ble_eq_true rfl) (Nat.le_of_ble_eq_true rfl) (fun x hx => absurd hx List.not_mem_nil) (q_nmL0 _) (q_nmS0 _) rfl (pos' := 15) (st' := [.int (q_bz r5)]) (lI' := []) (lE' := []) rfl rfl rfl rfl ?_
    refine q_blf 0 [] (a := q_kc (t, r, m, z, N, ext, rx, L) I E 22 [some (.ref 452), some (.int x1)] [] [] []) (b := q_kc (t, r, m, z, N, ext, rx, L) I E 16 [some (.ref 452), some (.int x1)] [] [] []) (P := (q_bz r5) = 0) ok_X11_tokenLength rfl q_cn (fun h6 => ?_) (fun h6 => ?_)
    · have hf := q_ip h6 hf
      refine q_blk 3 [] (c' := q_kc (t, r, m, z, N, ext, rx, L) I E 25 [some (.ref 452), some (.int x1)] [.int (2 : Int32), .int x1, .ref 452] [] []) ok_X11_tokenLength rfl q_cn ?_
      obtain ⟨r7, hr7, hf⟩ := q_bd hf
      obtain ⟨u8, hu9, hf⟩ := q_bd hf
      refine q_kV (M2 := m_X11_writtenSign) (As := [.int x1, .int (2 : Int32)]) (b := 452) (v2 := some (.ref r7)) ok_X11_tokenLength ok_X11_writtenSign cv_X11_writtenSign (ct_X11_writtenSign_452 (d := 10) (Nat.le_refl _) hr7) rfl rfl (Or.inl rfl) rfl rfl rfl rfl (Nat.le_trans (Nat.le_of_ble_eq_true rfl) hd) (Nat.le_of_ble_eq_true rfl) (Nat.le_of_ble_eq_true rfl) (Nat.le_of_ble_eq_true rfl) (fun x hx => absurd hx List.not_mem_nil) (q_nmL0 _) (q_nmS0 _) rfl (pos' := 26) (st' := [.ref r7]) (lI' := []) (lE' := []) rfl rfl rfl rfl ?_
      refine q_blk 1 [] (c' := q_kc (t, r, m, z, N, ext, rx, L) I E 27 [some (.ref 452), some (.int x1)] [.ref 1, .ref r7] [] []) ok_X11_tokenLength rfl q_cn ?_
      refine q_o_acmp_eq ok_X11_tokenLength rfl (q_e49_lt hu9) (Nat.lt_of_lt_of_le (Nat.lt_succ_self _) (Nat.le_of_ble_eq_true rfl)) (fun h10 => ?_) (fun h10 => ?_)
      · have hf := q_ip h10 hf
        refine q_blk 3 [] (c' := q_kc (t, r, m, z, N, ext, rx, L) I E 33 [some (.ref 452), some (.int x1)] [.int (1 : Int32), .int x1, .ref 452] [] []) ok_X11_tokenLength rfl q_cn ?_
        obtain ⟨r11, hr11, hf⟩ := q_bd hf
        obtain ⟨u12, hu13, hf⟩ := q_bd hf
        refine q_kV (M2 := m_X11_writtenSign) (As := [.int x1, .int (1 : Int32)]) (b := 452) (v2 := some (.ref r11)) ok_X11_tokenLength ok_X11_writtenSign cv_X11_writtenSign (ct_X11_writtenSign_452 (d := 10) (Nat.le_refl _) hr11) rfl rfl (Or.inl rfl) rfl rfl rfl rfl (Nat.le_trans (Nat.le_of_ble_eq_true rfl) hd) (Nat.le_of_ble_eq_true rfl) (Nat.le_of_ble_eq_true rfl) (Nat.le_of_ble_eq_true rfl) (fun x hx => absurd hx List.not_mem_nil) (q_nmL0 _) (q_nmS0 _) rfl (pos' := 34) (st' := [.ref r11]) (lI' := []) (lE' := []) rfl rfl rfl rfl ?_
        refine q_blk 1 [] (c' := q_kc (t, r, m, z, N, ext, rx, L) I E 35 [some (.ref 452), some (.int x1)] [.ref 1, .ref r11] [] []) ok_X11_tokenLength rfl q_cn ?_
        refine q_o_acmp_eq ok_X11_tokenLength rfl (q_e49_lt hu13) (Nat.lt_of_lt_of_le (Nat.lt_succ_self _) (Nat.le_of_ble_eq_true rfl)) (fun h14 => ?_) (fun h14 => ?_)
        · have hf := q_ip h14 hf
          refine q_blk 1 [] (c' := q_kc (t, r, m, z, N, ext, rx, L) I E 39 [some (.ref 452), some (.int x1)] [.int (0 : Int32)] [] []) ok_X11_tokenLength rfl q_cn ?_
          cases hf
          exact q_kri ok_X11_tokenLength rfl rfl rfl (Nat.le_of_ble_eq_true rfl) (Nat.le_of_ble_eq_true rfl) ⟨rfl, q_hpe (q_pdw [] rfl rfl) (q_pdw [] rfl rfl)⟩
        · have hf := q_in h14 hf
          refine q_blk 2 [] (c' := q_kc (t, r, m, z, N, ext, rx, L) I E 39 [some (.ref 452), some (.int x1)] [.int (1 : Int32)] [] []) ok_X11_tokenLength rfl q_cn ?_
          cases hf
          exact q_kri ok_X11_tokenLength rfl rfl rfl (Nat.le_of_ble_eq_true rfl) (Nat.le_of_ble_eq_true rfl) ⟨rfl, q_hpe (q_pdw [] rfl rfl) (q_pdw [] rfl rfl)⟩
      · have hf := q_in h10 hf
        refine q_blk 1 [] (c' := q_kc (t, r, m, z, N, ext, rx, L) I E 29 [some (.ref 452), some (.int x1)] [.int (2 : Int32)] [] []) ok_X11_tokenLength rfl q_cn ?_
        cases hf
        exact q_kri ok_X11_tokenLength rfl rfl rfl (Nat.le_of_ble_eq_true rfl) (Nat.le_of_ble_eq_true rfl) ⟨rfl, q_hpe (q_pdw [] rfl rfl) (q_pdw [] rfl rfl)⟩
    · have hf := q_in h6 hf
      refine q_blk 2 [] (c' := q_kc (t, r, m, z, N, ext, rx, L) I E 18 [some (.ref 452), some (.int x1)] [.int x1, .ref 452] [] []) ok_X11_tokenLength rfl q_cn ?_
      obtain ⟨r15, hr15, hf⟩ := q_bd hf
      refine q_kV (M2 := m_X11_digitCount) (As := [.int x1]) (b := 452) (v2 := some (.int r15)) ok_X11_tokenLength ok_X11_digitCount cv_X11_digitCount (ct_X11_digitCount_452 (d := 2) (Nat.le_refl _) hr15) rfl rfl (Or.inl rfl) rfl rfl rfl rfl (Nat.le_trans (Nat.le_of_ble_eq_true rfl) hd) (Nat.le_of_ble_eq_true rfl) (Nat.le_of_ble_eq_true rfl) (Nat.le_of_ble_eq_true rfl) (fun x hx => absurd hx List.not_mem_nil) (q_nmL0 _) (q_nmS0 _) rfl (pos' := 19) (st' := [.int r15]) (lI' := []) (lE' := []) rfl rfl rfl rfl ?_
      refine q_blk 1 [] (c' := q_kc (t, r, m, z, N, ext, rx, L) I E 20 [some (.ref 452), some (.int x1)] [.int (6 : Int32), .int r15] [] []) ok_X11_tokenLength rfl q_cn ?_
      obtain ⟨r16, hr16, hf⟩ := q_bd hf
      refine q_kS (M2 := m_X11_lengthWithin) (As := [.int r15, .int (6 : Int32)]) (v2 := some (.int r16)) ok_X11_tokenLength ok_X11_lengthWithin cs_X11_lengthWithin (ct_X11_lengthWithin (d := 1) (Nat.le_refl _) hr16) rfl rfl (Or.inl rfl) (Nat.le_trans (Nat.le_of_ble_eq_true rfl) hd) (Nat.le_of_ble_eq_true rfl) (Nat.le_of_ble_eq_true rfl) (Nat.le_of_ble_eq_true rfl) (fun x hx => absurd hx List.not_mem_nil) (q_nmL0 _) (q_nmS0 _) rfl (pos' := 21) (st' := [.int r16]) (lI' := []) (lE' := []) rfl rfl rfl rfl ?_
      cases hf
      exact q_kri ok_X11_tokenLength rfl rfl rfl (Nat.le_of_ble_eq_true rfl) (Nat.le_of_ble_eq_true rfl) ⟨rfl, q_hpe (q_pdw [] rfl rfl) (q_pdw [] rfl rfl)⟩
  · have hf := q_in h3 hf
    refine q_blk 2 [] (c' := q_kc (t, r, m, z, N, ext, rx, L) I E 7 [some (.ref 452), some (.int x1)] [.int x1, .ref 452] [] []) ok_X11_tokenLength rfl q_cn ?_
    obtain ⟨r17, hr17, hf⟩ := q_bd hf
    refine q_kV (M2 := m_X11_wordLength) (As := [.int x1]) (b := 452) (v2 := some (.int r17)) ok_X11_tokenLength ok_X11_wordLength cv_X11_wordLength (ct_X11_wordLength_452 (d := 2) (Nat.le_refl _) hr17) rfl rfl (Or.inl rfl) rfl rfl rfl rfl (Nat.le_trans (Nat.le_of_ble_eq_true rfl) hd) (Nat.le_of_ble_eq_true rfl) (Nat.le_of_ble_eq_true rfl) (Nat.le_of_ble_eq_true rfl) (fun x hx => absurd hx List.not_mem_nil) (q_nmL0 _) (q_nmS0 _) rfl (pos' := 8) (st' := [.int r17]) (lI' := []) (lE' := []) rfl rfl rfl rfl ?_
    refine q_blk 1 [] (c' := q_kc (t, r, m, z, N, ext, rx, L) I E 9 [some (.ref 452), some (.int x1)] [.int (10 : Int32), .int r17] [] []) ok_X11_tokenLength rfl q_cn ?_
    obtain ⟨r18, hr18, hf⟩ := q_bd hf
    refine q_kS (M2 := m_X11_lengthWithin) (As := [.int r17, .int (10 : Int32)]) (v2 := some (.int r18)) ok_X11_tokenLength ok_X11_lengthWithin cs_X11_lengthWithin (ct_X11_lengthWithin (d := 1) (Nat.le_refl _) hr18) rfl rfl (Or.inl rfl) (Nat.le_trans (Nat.le_of_ble_eq_true rfl) hd) (Nat.le_of_ble_eq_true rfl) (Nat.le_of_ble_eq_true rfl) (Nat.le_of_ble_eq_true rfl) (fun x hx => absurd hx List.not_mem_nil) (q_nmL0 _) (q_nmS0 _) rfl (pos' := 10) (st' := [.int r18]) (lI' := []) (lE' := []) rfl rfl rfl rfl ?_
    cases hf
    exact q_kri ok_X11_tokenLength rfl rfl rfl (Nat.le_of_ble_eq_true rfl) (Nat.le_of_ble_eq_true rfl) ⟨rfl, q_hpe (q_pdw [] rfl rfl) (q_pdw [] rfl rfl)⟩
set_option maxHeartbeats 4000000 in
theorem ct_X11_tokenSign_452 {g : q_G} {t : Nat} {r : Nat} {m : Nat} {z : Nat} {N : Nat} {ext : Nat → q_Sh} {rx : Nat → Nat → Option Nat} {L : Nat → Nat → Int64} {d : Nat} (hd : 11 ≤ d)  {I : Nat → Nat → Int32} {E : Nat → Nat → Option Nat} {x1 : Int32} {x2 : Int32} {r0 : Nat} (hf : f_X11_tokenSign (I 401) (I 452) x1 x2 = some r0) : q_Ct g m_X11_tokenSign d 0 0 [] [.ref 452, .int x1, .int x2] (q_hp (t, r, m, z, N, ext, rx, L) I E) (fun o h' => o = .inl (some (.ref r0)) ∧ h' = q_hp (t, r, m, z, N, ext, rx, L) (q_ws I []) (q_ws E [])) := by
  rw [f_X11_tokenSign] at hf
  refine q_Ct_of ok_X11_tokenSign (Nat.le_of_ble_eq_true rfl) ?_ _ rfl rfl
  change q_J g m_X11_tokenSign d 0 0 _ [] _ 0 0 (q_kc (t, r, m, z, N, ext, rx, L) I E 0 [some (.ref 452), some (.int x1), some (.int x2), none] [] [] [])
  refine q_blk 2 [] (c' := q_kc (t, r, m, z, N, ext, rx, L) I E 2 [some (.ref 452), some (.int x1), some (.int x2), none] [.int x1, .ref 452] [] []) ok_X11_tokenSign rfl q_cn ?_
  obtain ⟨r1, hr1, hf⟩ := q_bd hf
  refine q_kV (M2 := m_X11_at) (As := [.int x1]) (b := 452) (v2 := some (.int r1)) ok_X11_tokenSign ok_X11_at cv_X11_at (ct_X11_at_452 (d := 1) (Nat.le_refl _) hr1) rfl rfl (Or.inl rfl) rfl rfl rfl rfl (Nat.le_trans (Nat.le_of_ble_eq_true rfl) hd) (Nat.le_of_ble_eq_true rfl) (Nat.le_of_ble_eq_true rfl) (Nat.le_of_ble_eq_true rfl) (fun x hx => absurd hx List.not_mem_nil) (q_nmL0 _) (q_nmS0 _) rfl (pos' := 3) (st' := [.int r1]) (lI' := []) (lE' := []) rfl rfl rfl rfl ?_
  obtain ⟨r2, hr2, hf⟩ := q_bd hf
  refine q_kS (M2 := m_X11_isDigit) (As := [.int r1]) (v2 := some (.int (q_bz r2))) ok_X11_tokenSign ok_X11_isDigit cs_X11_isDigit (ct_X11_isDigit (d := 1) (Nat.le_refl _) hr2) rfl rfl (Or.inl rfl) (Nat.le_trans (Nat.le_of_ble_eq_true rfl) hd) (Nat.le_of_ble_eq_true rfl) (Nat.le_of_ble_eq_true rfl) (Nat.le_of_ble_eq_true rfl) (fun x hx => absurd hx List.not_mem_nil) (q_nmL0 _) (q_nmS0 _) rfl (pos' := 4) (st' := [.int (q_bz r2)]) (lI' := []) (lE' := []) rfl rfl rfl rfl ?_
  refine q_blf 0 [] (a := q_kc (t, r, m, z, N, ext, rx, L) I E 7 [some (.ref 452), some (.int x1), some (.int x2), none] [] [] []) (b := q_kc (t, r, m, z, N, ext, rx, L) I E 5 [some (.ref 452), some (.int x1), some (.int x2), none] [] [] []) (P := (q_bz r2) = 0) ok_X11_tokenSign rfl q_cn (fun h3 => ?_) (fun h3 => ?_)
  · have hf := q_ip h3 hf
    refine q_blk 3 [] (c' := q_kc (t, r, m, z, N, ext, rx, L) I E 10 [some (.ref 452), some (.int x1), some (.int x2), none] [.int x2, .int x1, .ref 452] [] []) ok_X11_tokenSign rfl q_cn ?_
    obtain ⟨r4, hr4, hf⟩ := q_bd hf
    obtain ⟨u5, hu6, hf⟩ := q_bd hf
    refine q_kV (M2 := m_X11_writtenSign) (As := [.int x1, .int x2]) (b := 452) (v2 := some (.ref r4)) ok_X11_tokenSign ok_X11_writtenSign cv_X11_writtenSign (ct_X11_writtenSign_452 (d := 10) (Nat.le_refl _) hr4) rfl rfl (Or.inl rfl) rfl rfl rfl rfl (Nat.le_trans (Nat.le_of_ble_eq_true rfl) hd) (Nat.le_of_ble_eq_true rfl) (Nat.le_of_ble_eq_true rfl) (Nat.le_of_ble_eq_true rfl) (fun x hx => absurd hx List.not_mem_nil) (q_nmL0 _) (q_nmS0 _) rfl (pos' := 11) (st' := [.ref r4]) (lI' := []) (lE' := []) rfl rfl rfl rfl ?_
    refine q_blk 3 [] (c' := q_kc (t, r, m, z, N, ext, rx, L) I E 14 [some (.ref 452), some (.int x1), some (.int x2), some (.ref r4)] [.ref 1, .ref r4] [] []) ok_X11_tokenSign rfl q_cn ?_
    refine q_o_acmp_ne ok_X11_tokenSign rfl (q_e49_lt hu6) (Nat.lt_of_lt_of_le (Nat.lt_succ_self _) (Nat.le_of_ble_eq_true rfl)) (fun h7 => ?_) (fun h7 => ?_)
    · have hf := q_in h7 hf
      refine q_blk 1 [] (c' := q_kc (t, r, m, z, N, ext, rx, L) I E 18 [some (.ref 452), some (.int x1), some (.int x2), some (.ref r4)] [.ref r4] [] []) ok_X11_tokenSign rfl q_cn ?_
      cases hf
      exact q_kra ok_X11_tokenSign rfl rfl (Nat.le_of_ble_eq_true rfl) (Nat.le_of_ble_eq_true rfl) ⟨rfl, q_hpe (q_pdw [] rfl rfl) (q_pdw [] rfl rfl)⟩
    · have hf := q_ip h7 hf
      refine q_blk 2 [] (c' := q_kc (t, r, m, z, N, ext, rx, L) I E 18 [some (.ref 452), some (.int x1), some (.int x2), some (.ref r4)] [.ref 3] [] []) ok_X11_tokenSign rfl q_cn ?_
      cases hf
      exact q_kra ok_X11_tokenSign rfl rfl (Nat.le_of_ble_eq_true rfl) (Nat.le_of_ble_eq_true rfl) ⟨rfl, q_hpe (q_pdw [] rfl rfl) (q_pdw [] rfl rfl)⟩
  · have hf := q_in h3 hf
    refine q_blk 1 [] (c' := q_kc (t, r, m, z, N, ext, rx, L) I E 6 [some (.ref 452), some (.int x1), some (.int x2), none] [.ref 2] [] []) ok_X11_tokenSign rfl q_cn ?_
    cases hf
    exact q_kra ok_X11_tokenSign rfl rfl (Nat.le_of_ble_eq_true rfl) (Nat.le_of_ble_eq_true rfl) ⟨rfl, q_hpe (q_pdw [] rfl rfl) (q_pdw [] rfl rfl)⟩
set_option maxHeartbeats 4000000 in
theorem lp_X11_numberAt_L4_452 {g : q_G} {d mc ms : Nat} {h0 : q_H} {Q : (Option Value ⊕ String) → q_H → Prop} {k n : Nat} {t : Nat} {r : Nat} {m : Nat} {z : Nat} {N : Nat} {ext : Nat → q_Sh} {rx : Nat → Nat → Option Nat} {L : Nat → Nat → Int64} (hd : 2 ≤ d) (hk : k ≤ mc) (hn : n ≤ ms)  {v1 : Int32} {v2 : Int32} : ∀ (fu : Nat) {I : Nat → Nat → Int32} {E : Nat → Nat → Option Nat} {v3 : Int32} {v4 : Int32} {r0 : Int32} (hf : f_X11_numberAt_L4 (I 401) (I 452) v1 v2 fu v3 v4 = some r0) (hK0 : q_J g m_X11_numberAt d mc ms h0 [] Q k n (q_kc (t, r, m, z, N, ext, rx, L) I E 21 [none, none, none, some (.int r0), none] [] [] [])), q_J g m_X11_numberAt d mc ms h0 [] Q k n (4, [some (.ref 452), some (.int v1), some (.int v2), some (.int v3), some (.int v4)], [], q_hp (t, r, m, z, N, ext, rx, L) I E) := by
  intro fu
  induction fu with
  | zero =>
    intro I E v3 v4 r0 hf hK0
    rw [f_X11_numberAt_L4] at hf
    cases hf
  | succ fu ih =>
    intro I E v3 v4 r0 hf hK0
    rw [f_X11_numberAt_L4] at hf
    change q_J g m_X11_numberAt d mc ms h0 [] Q k n (q_kc (t, r, m, z, N, ext, rx, L) I E 4 [some (.ref 452), some (.int v1), some (.int v2), some (.int v3), some (.int v4)] [] [] [])
    refine q_blf 2 [] (a := q_kc (t, r, m, z, N, ext, rx, L) I E 21 [some (.ref 452), some (.int v1), some (.int v2), some (.int v3), some (.int v4)] [] [] []) (b := q_kc (t, r, m, z, N, ext, rx, L) I E 7 [some (.ref 452), some (.int v1), some (.int v2), some (.int v3), some (.int v4)] [] [] []) (P := v2 ≤ v4) ok_X11_numberAt rfl q_cn (fun h1 => ?_) (fun h1 => ?_)
    · have hf := q_ip h1 hf
      refine q_less (ls' := [none, none, none, some (.int v3), none]) (q_sb1 (q_sb1 (q_sb1 (q_sb2 (q_sb1 q_sb0))))) ?_
      cases hf
      exact q_Jpad (q_pdw [] rfl rfl) (q_pdw [] rfl rfl) hK0
    · have hf := q_in h1 hf
      refine q_blk 7 [] (c' := q_kc (t, r, m, z, N, ext, rx, L) I E 14 [some (.ref 452), some (.int v1), some (.int v2), some (.int v3), some (.int v4)] [.int (v1 + v4), .ref 452, .int (v3 * (10 : Int32))] [] []) ok_X11_numberAt rfl q_cn ?_
      obtain ⟨r2, hr2, hf⟩ := q_bd hf
      refine q_kV (M2 := m_X11_at) (As := [.int (v1 + v4)]) (b := 452) (v2 := some (.int r2)) ok_X11_numberAt ok_X11_at cv_X11_at (ct_X11_at_452 (d := 1) (Nat.le_refl _) hr2) rfl rfl (Or.inl rfl) rfl rfl rfl rfl (Nat.le_trans (Nat.le_of_ble_eq_true rfl) hd) hk hn (Nat.le_of_ble_eq_true rfl) (fun x hx => absurd hx List.not_mem_nil) (q_nmL0 _) (q_nmS0 _) rfl (pos' := 15) (st' := [.int r2, .int (v3 * (10 : Int32))]) (lI' := []) (lE' := []) rfl rfl rfl rfl ?_
      refine q_blk 6 [] (c' := q_kc (t, r, m, z, N, ext, rx, L) I E 4 [some (.ref 452), some (.int v1), some (.int v2), some (.int (((v3 * (10 : Int32)) + r2) - (48 : Int32))), some (.int (v4 + 1))] [] [] []) ok_X11_numberAt rfl q_cn ?_
      exact ih (I := q_ws I []) (E := q_ws E []) hf (q_Jmrg (q_mgw rfl rfl) (q_mgw rfl rfl) hK0)
set_option maxHeartbeats 4000000 in
theorem ct_X11_numberAt_452 {g : q_G} {t : Nat} {r : Nat} {m : Nat} {z : Nat} {N : Nat} {ext : Nat → q_Sh} {rx : Nat → Nat → Option Nat} {L : Nat → Nat → Int64} {d : Nat} (hd : 2 ≤ d)  {I : Nat → Nat → Int32} {E : Nat → Nat → Option Nat} {x1 : Int32} {x2 : Int32} {r0 : Int32} (hf : f_X11_numberAt (I 401) (I 452) x1 x2 = some r0) : q_Ct g m_X11_numberAt d 0 0 [] [.ref 452, .int x1, .int x2] (q_hp (t, r, m, z, N, ext, rx, L) I E) (fun o h' => o = .inl (some (.int r0)) ∧ h' = q_hp (t, r, m, z, N, ext, rx, L) (q_ws I []) (q_ws E [])) := by
  rw [f_X11_numberAt] at hf
  refine q_Ct_of ok_X11_numberAt (Nat.le_of_ble_eq_true rfl) ?_ _ rfl rfl
  change q_J g m_X11_numberAt d 0 0 _ [] _ 0 0 (q_kc (t, r, m, z, N, ext, rx, L) I E 0 [some (.ref 452), some (.int x1), some (.int x2), none, none] [] [] [])
  refine q_blk 4 [] (c' := q_kc (t, r, m, z, N, ext, rx, L) I E 4 [some (.ref 452), some (.int x1), some (.int x2), some (.int (0 : Int32)), some (.int (0 : Int32))] [] [] []) ok_X11_numberAt rfl q_cn ?_
  obtain ⟨r3, hr3, hf⟩ := q_bd hf
  refine lp_X11_numberAt_L4_452 (I := q_ws I []) (E := q_ws E []) hd (Nat.le_of_ble_eq_true rfl) (Nat.le_of_ble_eq_true rfl) 4096 hr3 ?_
  refine q_Jmrg (lI' := []) (lE' := []) (q_mgw rfl rfl) (q_mgw rfl rfl) ?_
  refine q_blk 1 [] (c' := q_kc (t, r, m, z, N, ext, rx, L) I E 22 [none, none, none, some (.int r3), none] [.int r3] [] []) ok_X11_numberAt rfl q_cn ?_
  cases hf
  exact q_kri ok_X11_numberAt rfl rfl rfl (Nat.le_of_ble_eq_true rfl) (Nat.le_of_ble_eq_true rfl) ⟨rfl, q_hpe (q_pdw [] rfl rfl) (q_pdw [] rfl rfl)⟩
set_option maxHeartbeats 4000000 in
theorem lp_X11_isSame_L2_452 {g : q_G} {d mc ms : Nat} {h0 : q_H} {Q : (Option Value ⊕ String) → q_H → Prop} {k n : Nat} {t : Nat} {r : Nat} {m : Nat} {z : Nat} {N : Nat} {ext : Nat → q_Sh} {rx : Nat → Nat → Option Nat} {L : Nat → Nat → Int64} (hd : 2 ≤ d) (hk : k ≤ mc) (hn : n ≤ ms)  {v1 : Int32} {v2 : Int32} {v3 : Int32} : ∀ (fu : Nat) {I : Nat → Nat → Int32} {E : Nat → Nat → Option Nat} {v4 : Int32} {r0 : Nat} (hf : f_X11_isSame_L2 (I 401) (I 452) v1 v2 v3 fu v4 = some r0) (hK0 : r0 = 0 → q_J g m_X11_isSame d mc ms h0 [] Q k n (q_kc (t, r, m, z, N, ext, rx, L) I E 20 [none, none, none, none, none] [] [] [])) (hK1 : r0 = 1 → q_J g m_X11_isSame d mc ms h0 [] Q k n (q_kc (t, r, m, z, N, ext, rx, L) I E 16 [none, none, none, none, none] [] [] [])), q_J g m_X11_isSame d mc ms h0 [] Q k n (2, [some (.ref 452), some (.int v1), some (.int v2), some (.int v3), some (.int v4)], [], q_hp (t, r, m, z, N, ext, rx, L) I E) := by
  intro fu
  induction fu with
  | zero =>
    intro I E v4 r0 hf hK0 hK1
    rw [f_X11_isSame_L2] at hf
    cases hf
  | succ fu ih =>
    intro I E v4 r0 hf hK0 hK1
    rw [f_X11_isSame_L2] at hf
    change q_J g m_X11_isSame d mc ms h0 [] Q k n (q_kc (t, r, m, z, N, ext, rx, L) I E 2 [some (.ref 452), some (.int v1), some (.int v2), some (.int v3), some (.int v4)] [] [] [])
    refine q_blf 2 [] (a := q_kc (t, r, m, z, N, ext, rx, L) I E 20 [some (.ref 452), some (.int v1), some (.int v2), some (.int v3), some (.int v4)] [] [] []) (b := q_kc (t, r, m, z, N, ext, rx, L) I E 5 [some (.ref 452), some (.int v1), some (.int v2), some (.int v3), some (.int v4)] [] [] []) (P := v3 ≤ v4) ok_X11_isSame rfl q_cn (fun h1 => ?_) (fun h1 => ?_)
    · have hf := q_ip h1 hf
      refine q_less (ls' := [none, none, none, none, none]) (q_sb1 (q_sb1 (q_sb1 (q_sb1 (q_sb1 q_sb0))))) ?_
      cases hf
      exact q_Jpad (q_pdw [] rfl rfl) (q_pdw [] rfl rfl) (hK0 rfl)
    · have hf := q_in h1 hf
      refine q_blk 4 [] (c' := q_kc (t, r, m, z, N, ext, rx, L) I E 9 [some (.ref 452), some (.int v1), some (.int v2), some (.int v3), some (.int v4)] [.int (v1 + v4), .ref 452] [] []) ok_X11_isSame rfl q_cn ?_
      obtain ⟨r2, hr2, hf⟩ := q_bd hf
      refine q_kV (M2 := m_X11_at) (As := [.int (v1 + v4)]) (b := 452) (v2 := some (.int r2)) ok_X11_isSame ok_X11_at cv_X11_at (ct_X11_at_452 (d := 1) (Nat.le_refl _) hr2) rfl rfl (Or.inl rfl) rfl rfl rfl rfl (Nat.le_trans (Nat.le_of_ble_eq_true rfl) hd) hk hn (Nat.le_of_ble_eq_true rfl) (fun x hx => absurd hx List.not_mem_nil) (q_nmL0 _) (q_nmS0 _) rfl (pos' := 10) (st' := [.int r2]) (lI' := []) (lE' := []) rfl rfl rfl rfl ?_
      refine q_blk 4 [] (c' := q_kc (t, r, m, z, N, ext, rx, L) I E 14 [some (.ref 452), some (.int v1), some (.int v2), some (.int v3), some (.int v4)] [.int (v2 + v4), .ref 452, .int r2] [] []) ok_X11_isSame rfl q_cn ?_
      obtain ⟨r3, hr3, hf⟩ := q_bd hf
      refine q_kV (M2 := m_X11_at) (As := [.int (v2 + v4)]) (b := 452) (v2 := some (.int r3)) ok_X11_isSame ok_X11_at cv_X11_at (ct_X11_at_452 (d := 1) (Nat.le_refl _) hr3) rfl rfl (Or.inl rfl) rfl rfl rfl rfl (Nat.le_trans (Nat.le_of_ble_eq_true rfl) hd) hk hn (Nat.le_of_ble_eq_true rfl) (fun x hx => absurd hx List.not_mem_nil) (q_nmL0 _) (q_nmS0 _) rfl (pos' := 15) (st' := [.int r3, .int r2]) (lI' := []) (lE' := []) rfl rfl rfl rfl ?_
      refine q_blf 0 [] (a := q_kc (t, r, m, z, N, ext, rx, L) I E 18 [some (.ref 452), some (.int v1), some (.int v2), some (.int v3), some (.int v4)] [] [] []) (b := q_kc (t, r, m, z, N, ext, rx, L) I E 16 [some (.ref 452), some (.int v1), some (.int v2), some (.int v3), some (.int v4)] [] [] []) (P := r2 = r3) ok_X11_isSame rfl q_cn (fun h4 => ?_) (fun h4 => ?_)
      · have hf := q_ip h4 hf
        refine q_blk 2 [] (c' := q_kc (t, r, m, z, N, ext, rx, L) I E 2 [some (.ref 452), some (.int v1), some (.int v2), some (.int v3), some (.int (v4 + 1))] [] [] []) ok_X11_isSame rfl q_cn ?_
        exact ih (I := q_ws I []) (E := q_ws E []) hf (fun hz => q_Jmrg (q_mgw rfl rfl) (q_mgw rfl rfl) (hK0 hz)) (fun hz => q_Jmrg (q_mgw rfl rfl) (q_mgw rfl rfl) (hK1 hz))
      · have hf := q_in h4 hf
        refine q_less (ls' := [none, none, none, none, none]) (q_sb1 (q_sb1 (q_sb1 (q_sb1 (q_sb1 q_sb0))))) ?_
        cases hf
        exact q_Jpad (q_pdw [] rfl rfl) (q_pdw [] rfl rfl) (hK1 rfl)
set_option maxHeartbeats 4000000 in
theorem ct_X11_isSame_452 {g : q_G} {t : Nat} {r : Nat} {m : Nat} {z : Nat} {N : Nat} {ext : Nat → q_Sh} {rx : Nat → Nat → Option Nat} {L : Nat → Nat → Int64} {d : Nat} (hd : 2 ≤ d)  {I : Nat → Nat → Int32} {E : Nat → Nat → Option Nat} {x1 : Int32} {x2 : Int32} {x3 : Int32} {r0 : Bool} (hf : f_X11_isSame (I 401) (I 452) x1 x2 x3 = some r0) : q_Ct g m_X11_isSame d 0 0 [] [.ref 452, .int x1, .int x2, .int x3] (q_hp (t, r, m, z, N, ext, rx, L) I E) (fun o h' => o = .inl (some (.int (q_bz r0))) ∧ h' = q_hp (t, r, m, z, N, ext, rx, L) (q_ws I []) (q_ws E [])) := by
  rw [f_X11_isSame] at hf
  refine q_Ct_of ok_X11_isSame (Nat.le_of_ble_eq_true rfl) ?_ _ rfl rfl
  change q_J g m_X11_isSame d 0 0 _ [] _ 0 0 (q_kc (t, r, m, z, N, ext, rx, L) I E 0 [some (.ref 452), some (.int x1), some (.int x2), some (.int x3), none] [] [] [])
  refine q_blk 2 [] (c' := q_kc (t, r, m, z, N, ext, rx, L) I E 2 [some (.ref 452), some (.int x1), some (.int x2), some (.int x3), some (.int (0 : Int32))] [] [] []) ok_X11_isSame rfl q_cn ?_
  obtain ⟨r5, hr5, hf⟩ := q_bd hf
  refine lp_X11_isSame_L2_452 (I := q_ws I []) (E := q_ws E []) hd (Nat.le_of_ble_eq_true rfl) (Nat.le_of_ble_eq_true rfl) 4096 hr5 ?_ ?_
  · intro hz0
    have hf := q_ip hz0 hf
    refine q_Jmrg (lI' := []) (lE' := []) (q_mgw rfl rfl) (q_mgw rfl rfl) ?_
    refine q_blk 1 [] (c' := q_kc (t, r, m, z, N, ext, rx, L) I E 21 [none, none, none, none, none] [.int (1 : Int32)] [] []) ok_X11_isSame rfl q_cn ?_
    cases hf
    exact q_kri ok_X11_isSame rfl rfl rfl (Nat.le_of_ble_eq_true rfl) (Nat.le_of_ble_eq_true rfl) ⟨rfl, q_hpe (q_pdw [] rfl rfl) (q_pdw [] rfl rfl)⟩
  · intro hz1
    have hf := q_in (fun h9 => absurd (hz1.symm.trans h9) (by decide)) hf
    refine q_Jmrg (lI' := []) (lE' := []) (q_mgw rfl rfl) (q_mgw rfl rfl) ?_
    refine q_blk 1 [] (c' := q_kc (t, r, m, z, N, ext, rx, L) I E 17 [none, none, none, none, none] [.int (0 : Int32)] [] []) ok_X11_isSame rfl q_cn ?_
    cases hf
    exact q_kri ok_X11_isSame rfl rfl rfl (Nat.le_of_ble_eq_true rfl) (Nat.le_of_ble_eq_true rfl) ⟨rfl, q_hpe (q_pdw [] rfl rfl) (q_pdw [] rfl rfl)⟩
set_option maxHeartbeats 4000000 in
theorem lp_X11_firstLike_L2_452 {g : q_G} {d mc ms : Nat} {h0 : q_H} {Q : (Option Value ⊕ String) → q_H → Prop} {k n : Nat} {t : Nat} {r : Nat} {m : Nat} {z : Nat} {N : Nat} {ext : Nat → q_Sh} {rx : Nat → Nat → Option Nat} {L : Nat → Nat → Int64} (hd : 3 ≤ d) (hk : k ≤ mc) (hn : n ≤ ms)  {v1 : Int32} {v2 : Int32} : ∀ (fu : Nat) {I : Nat → Nat → Int32} {E : Nat → Nat → Option Nat} {v3 : Int32} {r0 : Nat × Int32} (hf : f_X11_firstLike_L2 (I 401) (I 452) (I 454) (I 455) (E 453) v1 v2 fu v3 = some r0) (hK0 : r0.1 = 0 → q_J g m_X11_firstLike d mc ms h0 [] Q k n (q_kc (t, r, m, z, N, ext, rx, L) I E 40 [some (.ref 452), none, none, none, none] [] [] [])) (hK1 : r0.1 = 1 → q_J g m_X11_firstLike d mc ms h0 [] Q k n (q_kc (t, r, m, z, N, ext, rx, L) I E 36 [none, none, none, some (.int r0.2), none] [] [] [])), q_J g m_X11_firstLike d mc ms h0 [] Q k n (2, [some (.ref 452), some (.int v1), some (.int v2), some (.int v3), none], [], q_hp (t, r, m, z, N, ext, rx, L) I E) := by
  intro fu
  induction fu with
  | zero =>
    intro I E v3 r0 hf hK0 hK1
    rw [f_X11_firstLike_L2] at hf
    cases hf
  | succ fu ih =>
    intro I E v3 r0 hf hK0 hK1
    rw [f_X11_firstLike_L2] at hf
    change q_J g m_X11_firstLike d mc ms h0 [] Q k n (q_kc (t, r, m, z, N, ext, rx, L) I E 2 [some (.ref 452), some (.int v1), some (.int v2), some (.int v3), none] [] [] [])
    refine q_blf 3 [] (a := q_kc (t, r, m, z, N, ext, rx, L) I E 40 [some (.ref 452), some (.int v1), some (.int v2), some (.int v3), none] [] [] []) (b := q_kc (t, r, m, z, N, ext, rx, L) I E 6 [some (.ref 452), some (.int v1), some (.int v2), some (.int v3), none] [] [] []) (P := ((I 452) 6) ≤ v3) ok_X11_firstLike rfl q_cn (fun h1 => ?_) (fun h1 => ?_)
    · have hf := q_ip h1 hf
      refine q_less (ls' := [some (.ref 452), none, none, none, none]) (q_sb2 (q_sb1 (q_sb1 (q_sb1 (q_sb1 q_sb0))))) ?_
      cases hf
      exact q_Jpad (q_pdw [] rfl rfl) (q_pdw [] rfl rfl) (hK0 rfl)
    · have hf := q_in h1 hf
      refine q_blf 2 [] (a := q_kc (t, r, m, z, N, ext, rx, L) I E 40 [some (.ref 452), some (.int v1), some (.int v2), some (.int v3), none] [] [] []) (b := q_kc (t, r, m, z, N, ext, rx, L) I E 9 [some (.ref 452), some (.int v1), some (.int v2), some (.int v3), none] [] [] []) (P := (400 : Int32) < v3) ok_X11_firstLike rfl q_cn (fun h2 => ?_) (fun h2 => ?_)
      · have hf := q_ip h2 hf
        refine q_less (ls' := [some (.ref 452), none, none, none, none]) (q_sb2 (q_sb1 (q_sb1 (q_sb1 (q_sb1 q_sb0))))) ?_
        cases hf
        exact q_Jpad (q_pdw [] rfl rfl) (q_pdw [] rfl rfl) (hK0 rfl)
      · have hf := q_in h2 hf
        obtain ⟨j3, hj3, hf⟩ := q_bd hf
        refine q_blk 3 [] (c' := q_kc (t, r, m, z, N, ext, rx, L) I E 12 [some (.ref 452), some (.int v1), some (.int v2), some (.int v3), none] [.int v3, .ref 453] [] []) ok_X11_firstLike rfl q_cn ?_
        refine q_kaE (o := ((E 453) j3)) (pos' := 13) ok_X11_firstLike rfl rfl rfl hj3 rfl rfl rfl (fun hb5 => ?_) (fun b4 hb5 hl6 => ?_)
        · have hf := q_on0 hb5 hf
          refine q_blk 1 [] (c' := q_kc (t, r, m, z, N, ext, rx, L) I E 14 [some (.ref 452), some (.int v1), some (.int v2), some (.int v3), none] [.ref 3, .null] [] []) ok_X11_firstLike rfl q_cn ?_
          refine q_acmN ok_X11_firstLike rfl ?_
          refine q_blf 3 [] (a := q_kc (t, r, m, z, N, ext, rx, L) I E 38 [some (.ref 452), some (.int v1), some (.int v2), some (.int v3), some (.int (0 : Int32))] [] [] []) (b := q_kc (t, r, m, z, N, ext, rx, L) I E 27 [some (.ref 452), some (.int v1), some (.int v2), some (.int v3), some (.int (0 : Int32))] [] [] []) (P := (0 : Int32) = 0) ok_X11_firstLike rfl q_cn (fun h8 => ?_) (fun h8 => ?_)
          · have hf := q_ip h8 hf
            refine q_blk 2 [] (c' := q_kc (t, r, m, z, N, ext, rx, L) I E 2 [some (.ref 452), some (.int v1), some (.int v2), some (.int (v3 + 1)), some (.int (0 : Int32))] [] [] []) ok_X11_firstLike rfl q_cn ?_
            refine q_less (ls' := [some (.ref 452), some (.int v1), some (.int v2), some (.int (v3 + 1)), none]) (q_sb2 (q_sb2 (q_sb2 (q_sb2 (q_sb1 q_sb0))))) ?_
            exact ih (I := q_ws I []) (E := q_ws E []) hf (fun hz => q_Jmrg (q_mgw rfl rfl) (q_mgw rfl rfl) (hK0 hz)) (fun hz => q_Jmrg (q_mgw rfl rfl) (q_mgw rfl rfl) (hK1 hz))
          · have hf := q_in h8 hf
            obtain ⟨j9, hj9, hf⟩ := q_bd hf
            refine q_blk 7 [j9] (c' := q_kc (t, r, m, z, N, ext, rx, L) I E 34 [some (.ref 452), some (.int v1), some (.int v2), some (.int v3), some (.int (0 : Int32))] [.int v2, .int v1, .int ((I 454) j9), .ref 452] [] []) ok_X11_firstLike rfl (q_cc hj9 q_cn) ?_
            obtain ⟨r10, hr10, hf⟩ := q_bd hf
            refine q_kV (M2 := m_X11_isSame) (As := [.int ((I 454) j9), .int v1, .int v2]) (b := 452) (v2 := some (.int (q_bz r10))) ok_X11_firstLike ok_X11_isSame cv_X11_isSame (ct_X11_isSame_452 (d := 2) (Nat.le_refl _) hr10) rfl rfl (Or.inl rfl) rfl rfl rfl rfl (Nat.le_trans (Nat.le_of_ble_eq_true rfl) hd) hk hn (Nat.le_of_ble_eq_true rfl) (fun x hx => absurd hx List.not_mem_nil) (q_nmL0 _) (q_nmS0 _) rfl (pos' := 35) (st' := [.int (q_bz r10)]) (lI' := []) (lE' := []) rfl rfl rfl rfl ?_
            refine q_blf 0 [] (a := q_kc (t, r, m, z, N, ext, rx, L) I E 38 [some (.ref 452), some (.int v1), some (.int v2), some (.int v3), some (.int (0 : Int32))] [] [] []) (b := q_kc (t, r, m, z, N, ext, rx, L) I E 36 [some (.ref 452), some (.int v1), some (.int v2), some (.int v3), some (.int (0 : Int32))] [] [] []) (P := (q_bz r10) = 0) ok_X11_firstLike rfl q_cn (fun h11 => ?_) (fun h11 => ?_)
            · have hf := q_ip h11 hf
              refine q_blk 2 [] (c' := q_kc (t, r, m, z, N, ext, rx, L) I E 2 [some (.ref 452), some (.int v1), some (.int v2), some (.int (v3 + 1)), some (.int (0 : Int32))] [] [] []) ok_X11_firstLike rfl q_cn ?_
              refine q_less (ls' := [some (.ref 452), some (.int v1), some (.int v2), some (.int (v3 + 1)), none]) (q_sb2 (q_sb2 (q_sb2 (q_sb2 (q_sb1 q_sb0))))) ?_
              exact ih (I := q_ws I []) (E := q_ws E []) hf (fun hz => q_Jmrg (q_mgw rfl rfl) (q_mgw rfl rfl) (hK0 hz)) (fun hz => q_Jmrg (q_mgw rfl rfl) (q_mgw rfl rfl) (hK1 hz))
            · have hf := q_in h11 hf
              refine q_less (ls' := [none, none, none, some (.int v3), none]) (q_sb1 (q_sb1 (q_sb1 (q_sb2 (q_sb1 q_sb0))))) ?_
              cases hf
              exact q_Jpad (q_pdw [] rfl rfl) (q_pdw [] rfl rfl) (hK1 rfl)
        · have hf := q_on1 hb5 hf
          refine q_blk 1 [] (c' := q_kc (t, r, m, z, N, ext, rx, L) I E 14 [some (.ref 452), some (.int v1), some (.int v2), some (.int v3), none] [.ref 3, .ref b4] [] []) ok_X11_firstLike rfl q_cn ?_
          refine q_o_acmp_ne ok_X11_firstLike rfl hl6 (Nat.lt_of_lt_of_le (Nat.lt_succ_self _) (Nat.le_of_ble_eq_true rfl)) (fun h12 => ?_) (fun h12 => ?_)
          · have hf := q_in h12 hf
            refine q_blf 3 [] (a := q_kc (t, r, m, z, N, ext, rx, L) I E 38 [some (.ref 452), some (.int v1), some (.int v2), some (.int v3), some (.int (0 : Int32))] [] [] []) (b := q_kc (t, r, m, z, N, ext, rx, L) I E 27 [some (.ref 452), some (.int v1), some (.int v2), some (.int v3), some (.int (0 : Int32))] [] [] []) (P := (0 : Int32) = 0) ok_X11_firstLike rfl q_cn (fun h23 => ?_) (fun h23 => ?_)
            · have hf := q_ip h23 hf
              refine q_blk 2 [] (c' := q_kc (t, r, m, z, N, ext, rx, L) I E 2 [some (.ref 452), some (.int v1), some (.int v2), some (.int (v3 + 1)), some (.int (0 : Int32))] [] [] []) ok_X11_firstLike rfl q_cn ?_
              refine q_less (ls' := [some (.ref 452), some (.int v1), some (.int v2), some (.int (v3 + 1)), none]) (q_sb2 (q_sb2 (q_sb2 (q_sb2 (q_sb1 q_sb0))))) ?_
              exact ih (I := q_ws I []) (E := q_ws E []) hf (fun hz => q_Jmrg (q_mgw rfl rfl) (q_mgw rfl rfl) (hK0 hz)) (fun hz => q_Jmrg (q_mgw rfl rfl) (q_mgw rfl rfl) (hK1 hz))
            · have hf := q_in h23 hf
              obtain ⟨j24, hj24, hf⟩ := q_bd hf
              refine q_blk 7 [j24] (c' := q_kc (t, r, m, z, N, ext, rx, L) I E 34 [some (.ref 452), some (.int v1), some (.int v2), some (.int v3), some (.int (0 : Int32))] [.int v2, .int v1, .int ((I 454) j24), .ref 452] [] []) ok_X11_firstLike rfl (q_cc hj24 q_cn) ?_
              obtain ⟨r25, hr25, hf⟩ := q_bd hf
              refine q_kV (M2 := m_X11_isSame) (As := [.int ((I 454) j24), .int v1, .int v2]) (b := 452) (v2 := some (.int (q_bz r25))) ok_X11_firstLike ok_X11_isSame cv_X11_isSame (ct_X11_isSame_452 (d := 2) (Nat.le_refl _) hr25) rfl rfl (Or.inl rfl) rfl rfl rfl rfl (Nat.le_trans (Nat.le_of_ble_eq_true rfl) hd) hk hn (Nat.le_of_ble_eq_true rfl) (fun x hx => absurd hx List.not_mem_nil) (q_nmL0 _) (q_nmS0 _) rfl (pos' := 35) (st' := [.int (q_bz r25)]) (lI' := []) (lE' := []) rfl rfl rfl rfl ?_
              refine q_blf 0 [] (a := q_kc (t, r, m, z, N, ext, rx, L) I E 38 [some (.ref 452), some (.int v1), some (.int v2), some (.int v3), some (.int (0 : Int32))] [] [] []) (b := q_kc (t, r, m, z, N, ext, rx, L) I E 36 [some (.ref 452), some (.int v1), some (.int v2), some (.int v3), some (.int (0 : Int32))] [] [] []) (P := (q_bz r25) = 0) ok_X11_firstLike rfl q_cn (fun h26 => ?_) (fun h26 => ?_)
              · have hf := q_ip h26 hf
                refine q_blk 2 [] (c' := q_kc (t, r, m, z, N, ext, rx, L) I E 2 [some (.ref 452), some (.int v1), some (.int v2), some (.int (v3 + 1)), some (.int (0 : Int32))] [] [] []) ok_X11_firstLike rfl q_cn ?_
                refine q_less (ls' := [some (.ref 452), some (.int v1), some (.int v2), some (.int (v3 + 1)), none]) (q_sb2 (q_sb2 (q_sb2 (q_sb2 (q_sb1 q_sb0))))) ?_
                exact ih (I := q_ws I []) (E := q_ws E []) hf (fun hz => q_Jmrg (q_mgw rfl rfl) (q_mgw rfl rfl) (hK0 hz)) (fun hz => q_Jmrg (q_mgw rfl rfl) (q_mgw rfl rfl) (hK1 hz))
              · have hf := q_in h26 hf
                refine q_less (ls' := [none, none, none, some (.int v3), none]) (q_sb1 (q_sb1 (q_sb1 (q_sb2 (q_sb1 q_sb0))))) ?_
                cases hf
                exact q_Jpad (q_pdw [] rfl rfl) (q_pdw [] rfl rfl) (hK1 rfl)
          · have hf := q_ip h12 hf
            obtain ⟨j13, hj13, hf⟩ := q_bd hf
            refine q_blf 5 [j13] (a := q_kc (t, r, m, z, N, ext, rx, L) I E 23 [some (.ref 452), some (.int v1), some (.int v2), some (.int v3), none] [] [] []) (b := q_kc (t, r, m, z, N, ext, rx, L) I E 21 [some (.ref 452), some (.int v1), some (.int v2), some (.int v3), none] [] [] []) (P := ¬ ((I 455) j13) = v2) ok_X11_firstLike rfl (q_cc hj13 q_cn) (fun h14 => ?_) (fun h14 => ?_)
            · have hf := q_ip h14 hf
              refine q_blf 3 [] (a := q_kc (t, r, m, z, N, ext, rx, L) I E 38 [some (.ref 452), some (.int v1), some (.int v2), some (.int v3), some (.int (0 : Int32))] [] [] []) (b := q_kc (t, r, m, z, N, ext, rx, L) I E 27 [some (.ref 452), some (.int v1), some (.int v2), some (.int v3), some (.int (0 : Int32))] [] [] []) (P := (0 : Int32) = 0) ok_X11_firstLike rfl q_cn (fun h15 => ?_) (fun h15 => ?_)
              · have hf := q_ip h15 hf
                refine q_blk 2 [] (c' := q_kc (t, r, m, z, N, ext, rx, L) I E 2 [some (.ref 452), some (.int v1), some (.int v2), some (.int (v3 + 1)), some (.int (0 : Int32))] [] [] []) ok_X11_firstLike rfl q_cn ?_
                refine q_less (ls' := [some (.ref 452), some (.int v1), some (.int v2), some (.int (v3 + 1)), none]) (q_sb2 (q_sb2 (q_sb2 (q_sb2 (q_sb1 q_sb0))))) ?_
                exact ih (I := q_ws I []) (E := q_ws E []) hf (fun hz => q_Jmrg (q_mgw rfl rfl) (q_mgw rfl rfl) (hK0 hz)) (fun hz => q_Jmrg (q_mgw rfl rfl) (q_mgw rfl rfl) (hK1 hz))
              · have hf := q_in h15 hf
                obtain ⟨j16, hj16, hf⟩ := q_bd hf
                refine q_blk 7 [j16] (c' := q_kc (t, r, m, z, N, ext, rx, L) I E 34 [some (.ref 452), some (.int v1), some (.int v2), some (.int v3), some (.int (0 : Int32))] [.int v2, .int v1, .int ((I 454) j16), .ref 452] [] []) ok_X11_firstLike rfl (q_cc hj16 q_cn) ?_
                obtain ⟨r17, hr17, hf⟩ := q_bd hf
                refine q_kV (M2 := m_X11_isSame) (As := [.int ((I 454) j16), .int v1, .int v2]) (b := 452) (v2 := some (.int (q_bz r17))) ok_X11_firstLike ok_X11_isSame cv_X11_isSame (ct_X11_isSame_452 (d := 2) (Nat.le_refl _) hr17) rfl rfl (Or.inl rfl) rfl rfl rfl rfl (Nat.le_trans (Nat.le_of_ble_eq_true rfl) hd) hk hn (Nat.le_of_ble_eq_true rfl) (fun x hx => absurd hx List.not_mem_nil) (q_nmL0 _) (q_nmS0 _) rfl (pos' := 35) (st' := [.int (q_bz r17)]) (lI' := []) (lE' := []) rfl rfl rfl rfl ?_
                refine q_blf 0 [] (a := q_kc (t, r, m, z, N, ext, rx, L) I E 38 [some (.ref 452), some (.int v1), some (.int v2), some (.int v3), some (.int (0 : Int32))] [] [] []) (b := q_kc (t, r, m, z, N, ext, rx, L) I E 36 [some (.ref 452), some (.int v1), some (.int v2), some (.int v3), some (.int (0 : Int32))] [] [] []) (P := (q_bz r17) = 0) ok_X11_firstLike rfl q_cn (fun h18 => ?_) (fun h18 => ?_)
                · have hf := q_ip h18 hf
                  refine q_blk 2 [] (c' := q_kc (t, r, m, z, N, ext, rx, L) I E 2 [some (.ref 452), some (.int v1), some (.int v2), some (.int (v3 + 1)), some (.int (0 : Int32))] [] [] []) ok_X11_firstLike rfl q_cn ?_
                  refine q_less (ls' := [some (.ref 452), some (.int v1), some (.int v2), some (.int (v3 + 1)), none]) (q_sb2 (q_sb2 (q_sb2 (q_sb2 (q_sb1 q_sb0))))) ?_
                  exact ih (I := q_ws I []) (E := q_ws E []) hf (fun hz => q_Jmrg (q_mgw rfl rfl) (q_mgw rfl rfl) (hK0 hz)) (fun hz => q_Jmrg (q_mgw rfl rfl) (q_mgw rfl rfl) (hK1 hz))
                · have hf := q_in h18 hf
                  refine q_less (ls' := [none, none, none, some (.int v3), none]) (q_sb1 (q_sb1 (q_sb1 (q_sb2 (q_sb1 q_sb0))))) ?_
                  cases hf
                  exact q_Jpad (q_pdw [] rfl rfl) (q_pdw [] rfl rfl) (hK1 rfl)
            · have hf := q_in h14 hf
              refine q_blf 4 [] (a := q_kc (t, r, m, z, N, ext, rx, L) I E 38 [some (.ref 452), some (.int v1), some (.int v2), some (.int v3), some (.int (1 : Int32))] [] [] []) (b := q_kc (t, r, m, z, N, ext, rx, L) I E 27 [some (.ref 452), some (.int v1), some (.int v2), some (.int v3), some (.int (1 : Int32))] [] [] []) (P := (1 : Int32) = 0) ok_X11_firstLike rfl q_cn (fun h19 => ?_) (fun h19 => ?_)
              · have hf := q_ip h19 hf
                refine q_blk 2 [] (c' := q_kc (t, r, m, z, N, ext, rx, L) I E 2 [some (.ref 452), some (.int v1), some (.int v2), some (.int (v3 + 1)), some (.int (1 : Int32))] [] [] []) ok_X11_firstLike rfl q_cn ?_
                refine q_less (ls' := [some (.ref 452), some (.int v1), some (.int v2), some (.int (v3 + 1)), none]) (q_sb2 (q_sb2 (q_sb2 (q_sb2 (q_sb1 q_sb0))))) ?_
                exact ih (I := q_ws I []) (E := q_ws E []) hf (fun hz => q_Jmrg (q_mgw rfl rfl) (q_mgw rfl rfl) (hK0 hz)) (fun hz => q_Jmrg (q_mgw rfl rfl) (q_mgw rfl rfl) (hK1 hz))
              · have hf := q_in h19 hf
                obtain ⟨j20, hj20, hf⟩ := q_bd hf
                refine q_blk 7 [j20] (c' := q_kc (t, r, m, z, N, ext, rx, L) I E 34 [some (.ref 452), some (.int v1), some (.int v2), some (.int v3), some (.int (1 : Int32))] [.int v2, .int v1, .int ((I 454) j20), .ref 452] [] []) ok_X11_firstLike rfl (q_cc hj20 q_cn) ?_
                obtain ⟨r21, hr21, hf⟩ := q_bd hf
                refine q_kV (M2 := m_X11_isSame) (As := [.int ((I 454) j20), .int v1, .int v2]) (b := 452) (v2 := some (.int (q_bz r21))) ok_X11_firstLike ok_X11_isSame cv_X11_isSame (ct_X11_isSame_452 (d := 2) (Nat.le_refl _) hr21) rfl rfl (Or.inl rfl) rfl rfl rfl rfl (Nat.le_trans (Nat.le_of_ble_eq_true rfl) hd) hk hn (Nat.le_of_ble_eq_true rfl) (fun x hx => absurd hx List.not_mem_nil) (q_nmL0 _) (q_nmS0 _) rfl (pos' := 35) (st' := [.int (q_bz r21)]) (lI' := []) (lE' := []) rfl rfl rfl rfl ?_
                refine q_blf 0 [] (a := q_kc (t, r, m, z, N, ext, rx, L) I E 38 [some (.ref 452), some (.int v1), some (.int v2), some (.int v3), some (.int (1 : Int32))] [] [] []) (b := q_kc (t, r, m, z, N, ext, rx, L) I E 36 [some (.ref 452), some (.int v1), some (.int v2), some (.int v3), some (.int (1 : Int32))] [] [] []) (P := (q_bz r21) = 0) ok_X11_firstLike rfl q_cn (fun h22 => ?_) (fun h22 => ?_)
                · have hf := q_ip h22 hf
                  refine q_blk 2 [] (c' := q_kc (t, r, m, z, N, ext, rx, L) I E 2 [some (.ref 452), some (.int v1), some (.int v2), some (.int (v3 + 1)), some (.int (1 : Int32))] [] [] []) ok_X11_firstLike rfl q_cn ?_
                  refine q_less (ls' := [some (.ref 452), some (.int v1), some (.int v2), some (.int (v3 + 1)), none]) (q_sb2 (q_sb2 (q_sb2 (q_sb2 (q_sb1 q_sb0))))) ?_
                  exact ih (I := q_ws I []) (E := q_ws E []) hf (fun hz => q_Jmrg (q_mgw rfl rfl) (q_mgw rfl rfl) (hK0 hz)) (fun hz => q_Jmrg (q_mgw rfl rfl) (q_mgw rfl rfl) (hK1 hz))
                · have hf := q_in h22 hf
                  refine q_less (ls' := [none, none, none, some (.int v3), none]) (q_sb1 (q_sb1 (q_sb1 (q_sb2 (q_sb1 q_sb0))))) ?_
                  cases hf
                  exact q_Jpad (q_pdw [] rfl rfl) (q_pdw [] rfl rfl) (hK1 rfl)
set_option maxHeartbeats 4000000 in
theorem ct_X11_firstLike_452 {g : q_G} {t : Nat} {r : Nat} {m : Nat} {z : Nat} {N : Nat} {ext : Nat → q_Sh} {rx : Nat → Nat → Option Nat} {L : Nat → Nat → Int64} {d : Nat} (hd : 3 ≤ d)  {I : Nat → Nat → Int32} {E : Nat → Nat → Option Nat} {x1 : Int32} {x2 : Int32} {r0 : Int32} (hf : f_X11_firstLike (I 401) (I 452) (I 454) (I 455) (E 453) x1 x2 = some r0) : q_Ct g m_X11_firstLike d 0 0 [] [.ref 452, .int x1, .int x2] (q_hp (t, r, m, z, N, ext, rx, L) I E) (fun o h' => o = .inl (some (.int r0)) ∧ h' = q_hp (t, r, m, z, N, ext, rx, L) (q_ws I []) (q_ws E [])) := by
  rw [f_X11_firstLike] at hf
  refine q_Ct_of ok_X11_firstLike (Nat.le_of_ble_eq_true rfl) ?_ _ rfl rfl
  change q_J g m_X11_firstLike d 0 0 _ [] _ 0 0 (q_kc (t, r, m, z, N, ext, rx, L) I E 0 [some (.ref 452), some (.int x1), some (.int x2), none, none] [] [] [])
  refine q_blk 2 [] (c' := q_kc (t, r, m, z, N, ext, rx, L) I E 2 [some (.ref 452), some (.int x1), some (.int x2), some (.int (0 : Int32)), none] [] [] []) ok_X11_firstLike rfl q_cn ?_
  obtain ⟨r27, hr27, hf⟩ := q_bd hf
  refine lp_X11_firstLike_L2_452 (I := q_ws I []) (E := q_ws E []) hd (Nat.le_of_ble_eq_true rfl) (Nat.le_of_ble_eq_true rfl) 4096 hr27 ?_ ?_
  · intro hz0
    have hf := q_ip hz0 hf
    refine q_Jmrg (lI' := []) (lE' := []) (q_mgw rfl rfl) (q_mgw rfl rfl) ?_
    refine q_blk 2 [] (c' := q_kc (t, r, m, z, N, ext, rx, L) I E 42 [some (.ref 452), none, none, none, none] [.int ((I 452) 6)] [] []) ok_X11_firstLike rfl q_cn ?_
    cases hf
    exact q_kri ok_X11_firstLike rfl rfl rfl (Nat.le_of_ble_eq_true rfl) (Nat.le_of_ble_eq_true rfl) ⟨rfl, q_hpe (q_pdw [] rfl rfl) (q_pdw [] rfl rfl)⟩
  · intro hz1
    have hf := q_in (fun h9 => absurd (hz1.symm.trans h9) (by decide)) hf
    refine q_Jmrg (lI' := []) (lE' := []) (q_mgw rfl rfl) (q_mgw rfl rfl) ?_
    refine q_blk 1 [] (c' := q_kc (t, r, m, z, N, ext, rx, L) I E 37 [none, none, none, some (.int r27.2), none] [.int r27.2] [] []) ok_X11_firstLike rfl q_cn ?_
    cases hf
    exact q_kri ok_X11_firstLike rfl rfl rfl (Nat.le_of_ble_eq_true rfl) (Nat.le_of_ble_eq_true rfl) ⟨rfl, q_hpe (q_pdw [] rfl rfl) (q_pdw [] rfl rfl)⟩
