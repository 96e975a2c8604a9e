set_option maxHeartbeats 4000000 in
theorem lp_X12_append_L2_400 {g : q_G} {d mc ms : Nat} {h0 : q_H} {Q : (Option Value ⊕ String) → q_H → Prop} {k n : Nat} {t : Nat} {r : Nat} {m : Nat} {z : Nat} {N : Nat} {ext : Nat → q_Sh} {rx : Nat → Nat → Option Nat} {L : Nat → Nat → Int64} (hd : 1 ≤ d) (hk : k ≤ mc) (hn : n ≤ ms)  {v1 : Int32} : ∀ (fu : Nat) {I : Nat → Nat → Int32} {E : Nat → Nat → Option Nat} {v2 : Int32} {r0 : (Nat → Int32) × (Nat → Int32)} (hf : f_X12_append_L2 v1 fu (I 400) (I 401) v2 = some r0) (hK0 : q_J g m_X12_append d mc ms h0 [] Q k n (q_kc (t, r, m, z, N, ext, rx, L) I E 28 [none, none, none] [] [(400, r0.1), (401, r0.2)] [])), q_J g m_X12_append d mc ms h0 [] Q k n (2, [some (.ref 400), some (.int v1), some (.int v2)], [], q_hp (t, r, m, z, N, ext, rx, L) I E) := by
  intro fu
  induction fu with
  | zero =>
    intro I E v2 r0 hf hK0
    rw [f_X12_append_L2] at hf
    cases hf
  | succ fu ih =>
    intro I E v2 r0 hf hK0
    rw [f_X12_append_L2] at hf
    change q_J g m_X12_append d mc ms h0 [] Q k n (q_kc (t, r, m, z, N, ext, rx, L) I E 2 [some (.ref 400), some (.int v1), some (.int v2)] [] [] [])
    refine q_blf 1 [] (a := q_kc (t, r, m, z, N, ext, rx, L) I E 28 [some (.ref 400), some (.int v1), some (.int v2)] [] [] []) (b := q_kc (t, r, m, z, N, ext, rx, L) I E 4 [some (.ref 400), some (.int v1), some (.int v2)] [] [] []) (P := v2 < 0) ok_X12_append rfl q_cn (fun h1 => ?_) (fun h1 => ?_)
    · have hf := q_ip h1 hf
      refine q_less (ls' := [none, none, none]) (q_sb1 (q_sb1 (q_sb1 q_sb0))) ?_
      cases hf
      exact q_Jpad (q_pdw [400, 401] rfl rfl) (q_pdw [] rfl rfl) hK0
    · have hf := q_in h1 hf
      refine q_blf 2 [] (a := q_kc (t, r, m, z, N, ext, rx, L) I E 26 [some (.ref 400), some (.int v1), some (.int v2)] [] [] []) (b := q_kc (t, r, m, z, N, ext, rx, L) I E 7 [some (.ref 400), some (.int v1), some (.int v2)] [] [] []) (P := ((I 400) 7) < 0) ok_X12_append rfl q_cn (fun h2 => ?_) (fun h2 => ?_)
      · have hf := q_ip h2 hf
        refine q_blk 2 [] (c' := q_kc (t, r, m, z, N, ext, rx, L) I E 2 [some (.ref 400), some (.int v1), some (.int (v2 + (-8)))] [] [] []) ok_X12_append rfl q_cn ?_
        exact ih (I := q_ws I []) (E := q_ws E []) hf (q_Jmrg (q_mgw rfl rfl) (q_mgw rfl rfl) hK0)
      · have hf := q_in h2 hf
        refine q_blf 3 [] (a := q_kc (t, r, m, z, N, ext, rx, L) I E 26 [some (.ref 400), some (.int v1), some (.int v2)] [] [] []) (b := q_kc (t, r, m, z, N, ext, rx, L) I E 11 [some (.ref 400), some (.int v1), some (.int v2)] [] [] []) (P := (2000 : Int32) ≤ ((I 400) 7)) ok_X12_append rfl q_cn (fun h3 => ?_) (fun h3 => ?_)
        · have hf := q_ip h3 hf
          refine q_blk 2 [] (c' := q_kc (t, r, m, z, N, ext, rx, L) I E 2 [some (.ref 400), some (.int v1), some (.int (v2 + (-8)))] [] [] []) ok_X12_append rfl q_cn ?_
          exact ih (I := q_ws I []) (E := q_ws E []) hf (q_Jmrg (q_mgw rfl rfl) (q_mgw rfl rfl) hK0)
        · have hf := q_in h3 hf
          obtain ⟨j4, hj4, hf⟩ := q_bd hf
          refine q_blk 17 [j4] (c' := q_kc (t, r, m, z, N, ext, rx, L) I E 2 [some (.ref 400), some (.int v1), some (.int (v2 + (-8)))] [] [(400, (q_up (I 400) 7 (((I 400) 7) + (1 : Int32)))), (401, (q_up (I 401) j4 ((v1 >>> (v2 &&& 31)).toInt8.toInt32).toInt8.toInt32))] []) ok_X12_append rfl (q_cc hj4 q_cn) ?_
          exact ih (I := q_ws I [(400, (q_up (I 400) 7 (((I 400) 7) + (1 : Int32)))), (401, (q_up (I 401) j4 ((v1 >>> (v2 &&& 31)).toInt8.toInt32).toInt8.toInt32))]) (E := q_ws E []) hf (q_Jmrg (q_mgw rfl rfl) (q_mgw rfl rfl) hK0)
set_option maxHeartbeats 4000000 in
theorem ct_X12_append_400 {g : q_G} {t : Nat} {r : Nat} {m : Nat} {z : Nat} {N : Nat} {ext : Nat → q_Sh} {rx : Nat → Nat → Option Nat} {L : Nat → Nat → Int64} {d : Nat} (hd : 1 ≤ d)  {I : Nat → Nat → Int32} {E : Nat → Nat → Option Nat} {x1 : Int32} {r0 : (Nat → Int32) × (Nat → Int32)} (hf : f_X12_append (I 400) (I 401) x1 = some r0) : q_Ct g m_X12_append d 0 0 [] [.ref 400, .int x1] (q_hp (t, r, m, z, N, ext, rx, L) I E) (fun o h' => o = .inl none ∧ h' = q_hp (t, r, m, z, N, ext, rx, L) (q_ws I [(400, r0.1), (401, r0.2)]) (q_ws E [])) := by
  rw [f_X12_append] at hf
  refine q_Ct_of ok_X12_append (Nat.le_of_ble_eq_true rfl) ?_ _ rfl rfl
  change q_J g m_X12_append d 0 0 _ [] _ 0 0 (q_kc (t, r, m, z, N, ext, rx, L) I E 0 [some (.ref 400), some (.int x1), none] [] [] [])
  refine q_blk 2 [] (c' := q_kc (t, r, m, z, N, ext, rx, L) I E 2 [some (.ref 400), some (.int x1), some (.int (24 : Int32))] [] [] []) ok_X12_append rfl q_cn ?_
  obtain ⟨r5, hr5, hf⟩ := q_bd hf
  refine lp_X12_append_L2_400 (I := q_ws I []) (E := q_ws E []) hd (Nat.le_of_ble_eq_true rfl) (Nat.le_of_ble_eq_true rfl) 4096 hr5 ?_
  refine q_Jmrg (lI' := [(400, r5.1), (401, r5.2)]) (lE' := []) (q_mgw rfl rfl) (q_mgw rfl rfl) ?_
  cases hf
  exact q_krv ok_X12_append rfl rfl (Nat.le_of_ble_eq_true rfl) (Nat.le_of_ble_eq_true rfl) ⟨rfl, q_hpe (q_pdw [400, 401] rfl rfl) (q_pdw [] rfl rfl)⟩
set_option maxHeartbeats 4000000 in
theorem ct_X12_feed_400 {g : q_G} {t : Nat} {r : Nat} {m : Nat} {z : Nat} {N : Nat} {ext : Nat → q_Sh} {rx : Nat → Nat → Option Nat} {L : Nat → Nat → Int64} {d : Nat} (hd : 6 ≤ d)  {I : Nat → Nat → Int32} {E : Nat → Nat → Option Nat} {x1 : Int32} {x2 : Int32} {x3 : Int32} {x4 : Int32} {x5 : Int32} {r0 : (Int32 ⊕ String) × (Nat → Int32) × (Nat → Int32)} (hf : f_X12_feed (I 400) (I 401) x1 x2 x3 x4 x5 = some r0) : q_Ct g m_X12_feed d 1 6 [] [.ref 400, .int x1, .int x2, .int x3, .int x4, .int x5] (q_hp (t, r, m, z, N, ext, rx, L) I E) (fun o h' => o = q_oI r0.1 ∧ h' = q_hp (t, r, m, z, N, ext, rx, L) (q_ws I [(400, r0.2.1), (401, r0.2.2)]) (q_ws E [])) := by
  rw [f_X12_feed] at hf
  refine q_Ct_of ok_X12_feed (Nat.le_of_ble_eq_true rfl) ?_ _ rfl rfl
  change q_J g m_X12_feed d 1 6 _ [] _ 0 0 (q_kc (t, r, m, z, N, ext, rx, L) I E 0 [some (.ref 400), some (.int x1), some (.int x2), some (.int x3), some (.int x4), some (.int x5)] [] [] [])
  refine q_blf 3 [] (a := q_kc (t, r, m, z, N, ext, rx, L) I E 9 [some (.ref 400), some (.int x1), some (.int x2), some (.int x3), some (.int x4), some (.int x5)] [] [] []) (b := q_kc (t, r, m, z, N, ext, rx, L) I E 4 [some (.ref 400), some (.int x1), some (.int x2), some (.int x3), some (.int x4), some (.int x5)] [] [] []) (P := ((I 400) 7) ≤ (1980 : Int32)) ok_X12_feed rfl q_cn (fun h1 => ?_) (fun h1 => ?_)
  · have hf := q_ip h1 hf
    refine q_blk 2 [] (c' := q_kc (t, r, m, z, N, ext, rx, L) I E 11 [some (.ref 400), some (.int x1), some (.int x2), some (.int x3), some (.int x4), some (.int x5)] [.int x1, .ref 400] [] []) ok_X12_feed rfl q_cn ?_
    obtain ⟨r2, hr2, hf⟩ := q_bd hf
    refine q_kV (M2 := m_X12_append) (As := [.int x1]) (b := 400) (v2 := none) ok_X12_feed ok_X12_append cv_X12_append (ct_X12_append_400 (d := 1) (Nat.le_refl _) hr2) rfl rfl (Or.inl rfl) rfl rfl rfl rfl (Nat.le_trans (Nat.le_of_ble_eq_true rfl) hd) (Nat.le_of_ble_eq_true rfl) (Nat.le_of_ble_eq_true rfl) (Nat.le_of_ble_eq_true rfl) (fun x hx => absurd hx List.not_mem_nil) (q_nmL0 _) (q_nmS0 _) rfl (pos' := 12) (st' := []) (lI' := [(400, r2.1), (401, r2.2)]) (lE' := []) rfl rfl (q_mgw rfl rfl) rfl ?_
    refine q_blk 2 [] (c' := q_kc (t, r, m, z, N, ext, rx, L) I E 14 [some (.ref 400), some (.int x1), some (.int x2), some (.int x3), some (.int x4), some (.int x5)] [.int x2, .ref 400] [(400, r2.1), (401, r2.2)] []) ok_X12_feed rfl q_cn ?_
    obtain ⟨r3, hr3, hf⟩ := q_bd hf
    refine q_kV (M2 := m_X12_append) (As := [.int x2]) (b := 400) (v2 := none) ok_X12_feed ok_X12_append cv_X12_append (ct_X12_append_400 (d := 1) (Nat.le_refl _) hr3) rfl rfl (Or.inl rfl) rfl rfl rfl rfl (Nat.le_trans (Nat.le_of_ble_eq_true rfl) hd) (Nat.le_of_ble_eq_true rfl) (Nat.le_of_ble_eq_true rfl) (Nat.le_of_ble_eq_true rfl) (fun x hx => absurd hx List.not_mem_nil) (q_nmL0 _) (q_nmS0 _) rfl (pos' := 15) (st' := []) (lI' := [(400, r3.1), (401, r3.2)]) (lE' := []) rfl rfl (q_mgw rfl rfl) rfl ?_
    refine q_blk 2 [] (c' := q_kc (t, r, m, z, N, ext, rx, L) I E 17 [some (.ref 400), some (.int x1), some (.int x2), some (.int x3), some (.int x4), some (.int x5)] [.int x3, .ref 400] [(400, r3.1), (401, r3.2)] []) ok_X12_feed rfl q_cn ?_
    obtain ⟨r4, hr4, hf⟩ := q_bd hf
    refine q_kV (M2 := m_X12_append) (As := [.int x3]) (b := 400) (v2 := none) ok_X12_feed ok_X12_append cv_X12_append (ct_X12_append_400 (d := 1) (Nat.le_refl _) hr4) rfl rfl (Or.inl rfl) rfl rfl rfl rfl (Nat.le_trans (Nat.le_of_ble_eq_true rfl) hd) (Nat.le_of_ble_eq_true rfl) (Nat.le_of_ble_eq_true rfl) (Nat.le_of_ble_eq_true rfl) (fun x hx => absurd hx List.not_mem_nil) (q_nmL0 _) (q_nmS0 _) rfl (pos' := 18) (st' := []) (lI' := [(400, r4.1), (401, r4.2)]) (lE' := []) rfl rfl (q_mgw rfl rfl) rfl ?_
    refine q_blk 2 [] (c' := q_kc (t, r, m, z, N, ext, rx, L) I E 20 [some (.ref 400), some (.int x1), some (.int x2), some (.int x3), some (.int x4), some (.int x5)] [.int x4, .ref 400] [(400, r4.1), (401, r4.2)] []) ok_X12_feed rfl q_cn ?_
    obtain ⟨r5, hr5, hf⟩ := q_bd hf
    refine q_kV (M2 := m_X12_append) (As := [.int x4]) (b := 400) (v2 := none) ok_X12_feed ok_X12_append cv_X12_append (ct_X12_append_400 (d := 1) (Nat.le_refl _) hr5) rfl rfl (Or.inl rfl) rfl rfl rfl rfl (Nat.le_trans (Nat.le_of_ble_eq_true rfl) hd) (Nat.le_of_ble_eq_true rfl) (Nat.le_of_ble_eq_true rfl) (Nat.le_of_ble_eq_true rfl) (fun x hx => absurd hx List.not_mem_nil) (q_nmL0 _) (q_nmS0 _) rfl (pos' := 21) (st' := []) (lI' := [(400, r5.1), (401, r5.2)]) (lE' := []) rfl rfl (q_mgw rfl rfl) rfl ?_
    refine q_blk 2 [] (c' := q_kc (t, r, m, z, N, ext, rx, L) I E 23 [some (.ref 400), some (.int x1), some (.int x2), some (.int x3), some (.int x4), some (.int x5)] [.int x5, .ref 400] [(400, r5.1), (401, r5.2)] []) ok_X12_feed rfl q_cn ?_
    obtain ⟨r6, hr6, hf⟩ := q_bd hf
    refine q_kV (M2 := m_X12_append) (As := [.int x5]) (b := 400) (v2 := none) ok_X12_feed ok_X12_append cv_X12_append (ct_X12_append_400 (d := 1) (Nat.le_refl _) hr6) rfl rfl (Or.inl rfl) rfl rfl rfl rfl (Nat.le_trans (Nat.le_of_ble_eq_true rfl) hd) (Nat.le_of_ble_eq_true rfl) (Nat.le_of_ble_eq_true rfl) (Nat.le_of_ble_eq_true rfl) (fun x hx => absurd hx List.not_mem_nil) (q_nmL0 _) (q_nmS0 _) rfl (pos' := 24) (st' := []) (lI' := [(400, r6.1), (401, r6.2)]) (lE' := []) rfl rfl (q_mgw rfl rfl) rfl ?_
    refine q_blk 2 [] (c' := q_kc (t, r, m, z, N, ext, rx, L) I E 26 [some (.ref 400), some (.int x1), some (.int x2), some (.int x3), some (.int x4), some (.int x5)] [.int (r6.1 7)] [(400, r6.1), (401, r6.2)] []) ok_X12_feed rfl q_cn ?_
    cases hf
    exact q_kri ok_X12_feed rfl rfl rfl (Nat.le_of_ble_eq_true rfl) (Nat.le_of_ble_eq_true rfl) ⟨rfl, q_hpe (q_pdw [400, 401] rfl rfl) (q_pdw [] rfl rfl)⟩
  · have hf := q_in h1 hf
    cases hf
    exact q_o_throwS ok_X12_feed rfl rfl rfl rfl rfl rfl q_inISE msg_0 thr_0 q_fitISE q_fits (Nat.le_trans (Nat.le_of_ble_eq_true rfl) hd) (Nat.le_of_ble_eq_true rfl) (Nat.le_of_ble_eq_true rfl) (Nat.le_of_ble_eq_true rfl) ⟨rfl, q_hpe (q_pdw [400, 401] rfl rfl) (q_pdw [] rfl rfl)⟩
set_option maxHeartbeats 4000000 in
theorem ct_X12_trim_400 {g : q_G} {t : Nat} {r : Nat} {m : Nat} {z : Nat} {N : Nat} {ext : Nat → q_Sh} {rx : Nat → Nat → Option Nat} {L : Nat → Nat → Int64} {d : Nat} (hd : 6 ≤ d)  {I : Nat → Nat → Int32} {E : Nat → Nat → Option Nat} {x1 : Int32} {r0 : (Int32 ⊕ String) × (Nat → Int32)} (hf : f_X12_trim (I 400) x1 = some r0) : q_Ct g m_X12_trim d 1 6 [] [.ref 400, .int x1] (q_hp (t, r, m, z, N, ext, rx, L) I E) (fun o h' => o = q_oI r0.1 ∧ h' = q_hp (t, r, m, z, N, ext, rx, L) (q_ws I [(400, r0.2)]) (q_ws E [])) := by
  rw [f_X12_trim] at hf
  refine q_Ct_of ok_X12_trim (Nat.le_of_ble_eq_true rfl) ?_ _ rfl rfl
  change q_J g m_X12_trim d 1 6 _ [] _ 0 0 (q_kc (t, r, m, z, N, ext, rx, L) I E 0 [some (.ref 400), some (.int x1)] [] [] [])
  refine q_blf 1 [] (a := q_kc (t, r, m, z, N, ext, rx, L) I E 6 [some (.ref 400), some (.int x1)] [] [] []) (b := q_kc (t, r, m, z, N, ext, rx, L) I E 2 [some (.ref 400), some (.int x1)] [] [] []) (P := x1 < 0) ok_X12_trim rfl q_cn (fun h1 => ?_) (fun h1 => ?_)
  · have hf := q_ip h1 hf
    cases hf
    exact q_o_throwS ok_X12_trim rfl rfl rfl rfl rfl rfl q_inIAE msg_1 thr_1 q_fitIAE q_fits (Nat.le_trans (Nat.le_of_ble_eq_true rfl) hd) (Nat.le_of_ble_eq_true rfl) (Nat.le_of_ble_eq_true rfl) (Nat.le_of_ble_eq_true rfl) ⟨rfl, q_hpe (q_pdw [400] rfl rfl) (q_pdw [] rfl rfl)⟩
  · have hf := q_in h1 hf
    refine q_blf 3 [] (a := q_kc (t, r, m, z, N, ext, rx, L) I E 11 [some (.ref 400), some (.int x1)] [] [] []) (b := q_kc (t, r, m, z, N, ext, rx, L) I E 6 [some (.ref 400), some (.int x1)] [] [] []) (P := x1 ≤ ((I 400) 7)) ok_X12_trim rfl q_cn (fun h2 => ?_) (fun h2 => ?_)
    · have hf := q_ip h2 hf
      refine q_blk 4 [] (c' := q_kc (t, r, m, z, N, ext, rx, L) I E 15 [some (.ref 400), some (.int x1)] [.int x1] [(400, (q_up (I 400) 7 x1))] []) ok_X12_trim rfl q_cn ?_
      cases hf
      exact q_kri ok_X12_trim rfl rfl rfl (Nat.le_of_ble_eq_true rfl) (Nat.le_of_ble_eq_true rfl) ⟨rfl, q_hpe (q_pdw [400] rfl rfl) (q_pdw [] rfl rfl)⟩
    · have hf := q_in h2 hf
      cases hf
      exact q_o_throwS ok_X12_trim rfl rfl rfl rfl rfl rfl q_inIAE msg_1 thr_1 q_fitIAE q_fits (Nat.le_trans (Nat.le_of_ble_eq_true rfl) hd) (Nat.le_of_ble_eq_true rfl) (Nat.le_of_ble_eq_true rfl) (Nat.le_of_ble_eq_true rfl) ⟨rfl, q_hpe (q_pdw [400] rfl rfl) (q_pdw [] rfl rfl)⟩
set_option maxHeartbeats 4000000 in
theorem ct_X12_hooks_400 {g : q_G} {t : Nat} {r : Nat} {m : Nat} {z : Nat} {N : Nat} {ext : Nat → q_Sh} {rx : Nat → Nat → Option Nat} {L : Nat → Nat → Int64} {d : Nat} (hd : 1 ≤ d)  {I : Nat → Nat → Int32} {E : Nat → Nat → Option Nat} {r0 : Int32} (hf : f_X12_hooks (I 402) = some r0) : q_Ct g m_X12_hooks d 0 0 [] [.ref 400] (q_hp (t, r, m, z, N, ext, rx, L) I E) (fun o h' => o = .inl (some (.int r0)) ∧ h' = q_hp (t, r, m, z, N, ext, rx, L) (q_ws I []) (q_ws E [])) := by
  rw [f_X12_hooks] at hf
  refine q_Ct_of ok_X12_hooks (Nat.le_of_ble_eq_true rfl) ?_ _ rfl rfl
  change q_J g m_X12_hooks d 0 0 _ [] _ 0 0 (q_kc (t, r, m, z, N, ext, rx, L) I E 0 [some (.ref 400)] [] [] [])
  refine q_blk 3 [] (c' := q_kc (t, r, m, z, N, ext, rx, L) I E 3 [some (.ref 400)] [.int ((I 402) 3)] [] []) ok_X12_hooks rfl q_cn ?_
  cases hf
  exact q_kri ok_X12_hooks rfl rfl rfl (Nat.le_of_ble_eq_true rfl) (Nat.le_of_ble_eq_true rfl) ⟨rfl, q_hpe (q_pdw [] rfl rfl) (q_pdw [] rfl rfl)⟩
set_option maxHeartbeats 4000000 in
theorem ct_X12_steps_400 {g : q_G} {t : Nat} {r : Nat} {m : Nat} {z : Nat} {N : Nat} {ext : Nat → q_Sh} {rx : Nat → Nat → Option Nat} {L : Nat → Nat → Int64} {d : Nat} (hd : 1 ≤ d)  {I : Nat → Nat → Int32} {E : Nat → Nat → Option Nat} {r0 : Int32} (hf : f_X12_steps (I 402) = some r0) : q_Ct g m_X12_steps d 0 0 [] [.ref 400] (q_hp (t, r, m, z, N, ext, rx, L) I E) (fun o h' => o = .inl (some (.int r0)) ∧ h' = q_hp (t, r, m, z, N, ext, rx, L) (q_ws I []) (q_ws E [])) := by
  rw [f_X12_steps] at hf
  refine q_Ct_of ok_X12_steps (Nat.le_of_ble_eq_true rfl) ?_ _ rfl rfl
  change q_J g m_X12_steps d 0 0 _ [] _ 0 0 (q_kc (t, r, m, z, N, ext, rx, L) I E 0 [some (.ref 400)] [] [] [])
  refine q_blk 3 [] (c' := q_kc (t, r, m, z, N, ext, rx, L) I E 3 [some (.ref 400)] [.int ((I 402) 4)] [] []) ok_X12_steps rfl q_cn ?_
  cases hf
  exact q_kri ok_X12_steps rfl rfl rfl (Nat.le_of_ble_eq_true rfl) (Nat.le_of_ble_eq_true rfl) ⟨rfl, q_hpe (q_pdw [] rfl rfl) (q_pdw [] rfl rfl)⟩
set_option maxHeartbeats 4000000 in
theorem ct_X12_placesOfHalf_400 {g : q_G} {t : Nat} {r : Nat} {m : Nat} {z : Nat} {N : Nat} {ext : Nat → q_Sh} {rx : Nat → Nat → Option Nat} {L : Nat → Nat → Int64} {d : Nat} (hd : 1 ≤ d)  {I : Nat → Nat → Int32} {E : Nat → Nat → Option Nat} {r0 : Int32} (hf : f_X12_placesOfHalf (I 402) = some r0) : q_Ct g m_X12_placesOfHalf d 0 0 [] [.ref 400] (q_hp (t, r, m, z, N, ext, rx, L) I E) (fun o h' => o = .inl (some (.int r0)) ∧ h' = q_hp (t, r, m, z, N, ext, rx, L) (q_ws I []) (q_ws E [])) := by
  rw [f_X12_placesOfHalf] at hf
  refine q_Ct_of ok_X12_placesOfHalf (Nat.le_of_ble_eq_true rfl) ?_ _ rfl rfl
  change q_J g m_X12_placesOfHalf d 0 0 _ [] _ 0 0 (q_kc (t, r, m, z, N, ext, rx, L) I E 0 [some (.ref 400)] [] [] [])
  refine q_blk 3 [] (c' := q_kc (t, r, m, z, N, ext, rx, L) I E 3 [some (.ref 400)] [.int ((I 402) 0)] [] []) ok_X12_placesOfHalf rfl q_cn ?_
  cases hf
  exact q_kri ok_X12_placesOfHalf rfl rfl rfl (Nat.le_of_ble_eq_true rfl) (Nat.le_of_ble_eq_true rfl) ⟨rfl, q_hpe (q_pdw [] rfl rfl) (q_pdw [] rfl rfl)⟩
set_option maxHeartbeats 4000000 in
theorem ct_X12_stepsGoneBy_400 {g : q_G} {t : Nat} {r : Nat} {m : Nat} {z : Nat} {N : Nat} {ext : Nat → q_Sh} {rx : Nat → Nat → Option Nat} {L : Nat → Nat → Int64} {d : Nat} (hd : 1 ≤ d)  {I : Nat → Nat → Int32} {E : Nat → Nat → Option Nat} {r0 : Int32} (hf : f_X12_stepsGoneBy (I 457) = some r0) : q_Ct g m_X12_stepsGoneBy d 0 0 [] [.ref 400] (q_hp (t, r, m, z, N, ext, rx, L) I E) (fun o h' => o = .inl (some (.int r0)) ∧ h' = q_hp (t, r, m, z, N, ext, rx, L) (q_ws I []) (q_ws E [])) := by
  rw [f_X12_stepsGoneBy] at hf
  refine q_Ct_of ok_X12_stepsGoneBy (Nat.le_of_ble_eq_true rfl) ?_ _ rfl rfl
  change q_J g m_X12_stepsGoneBy d 0 0 _ [] _ 0 0 (q_kc (t, r, m, z, N, ext, rx, L) I E 0 [some (.ref 400)] [] [] [])
  refine q_blk 3 [] (c' := q_kc (t, r, m, z, N, ext, rx, L) I E 3 [some (.ref 400)] [.int ((I 457) 10)] [] []) ok_X12_stepsGoneBy rfl q_cn ?_
  cases hf
  exact q_kri ok_X12_stepsGoneBy rfl rfl rfl (Nat.le_of_ble_eq_true rfl) (Nat.le_of_ble_eq_true rfl) ⟨rfl, q_hpe (q_pdw [] rfl rfl) (q_pdw [] rfl rfl)⟩
set_option maxHeartbeats 4000000 in
theorem ct_X12_stepsRefused_400 {g : q_G} {t : Nat} {r : Nat} {m : Nat} {z : Nat} {N : Nat} {ext : Nat → q_Sh} {rx : Nat → Nat → Option Nat} {L : Nat → Nat → Int64} {d : Nat} (hd : 1 ≤ d)  {I : Nat → Nat → Int32} {E : Nat → Nat → Option Nat} {r0 : Int32} (hf : f_X12_stepsRefused (I 457) = some r0) : q_Ct g m_X12_stepsRefused d 0 0 [] [.ref 400] (q_hp (t, r, m, z, N, ext, rx, L) I E) (fun o h' => o = .inl (some (.int r0)) ∧ h' = q_hp (t, r, m, z, N, ext, rx, L) (q_ws I []) (q_ws E [])) := by
  rw [f_X12_stepsRefused] at hf
  refine q_Ct_of ok_X12_stepsRefused (Nat.le_of_ble_eq_true rfl) ?_ _ rfl rfl
  change q_J g m_X12_stepsRefused d 0 0 _ [] _ 0 0 (q_kc (t, r, m, z, N, ext, rx, L) I E 0 [some (.ref 400)] [] [] [])
  refine q_blk 3 [] (c' := q_kc (t, r, m, z, N, ext, rx, L) I E 3 [some (.ref 400)] [.int ((I 457) 11)] [] []) ok_X12_stepsRefused rfl q_cn ?_
  cases hf
  exact q_kri ok_X12_stepsRefused rfl rfl rfl (Nat.le_of_ble_eq_true rfl) (Nat.le_of_ble_eq_true rfl) ⟨rfl, q_hpe (q_pdw [] rfl rfl) (q_pdw [] rfl rfl)⟩
set_option maxHeartbeats 4000000 in
theorem ct_X12_workingHalf_400 {g : q_G} {t : Nat} {r : Nat} {m : Nat} {z : Nat} {N : Nat} {ext : Nat → q_Sh} {rx : Nat → Nat → Option Nat} {L : Nat → Nat → Int64} {d : Nat} (hd : 1 ≤ d)  {I : Nat → Nat → Int32} {E : Nat → Nat → Option Nat} {r0 : Int32} (hf : f_X12_workingHalf (I 457) = some r0) : q_Ct g m_X12_workingHalf d 0 0 [] [.ref 400] (q_hp (t, r, m, z, N, ext, rx, L) I E) (fun o h' => o = .inl (some (.int r0)) ∧ h' = q_hp (t, r, m, z, N, ext, rx, L) (q_ws I []) (q_ws E [])) := by
  rw [f_X12_workingHalf] at hf
  refine q_Ct_of ok_X12_workingHalf (Nat.le_of_ble_eq_true rfl) ?_ _ rfl rfl
  change q_J g m_X12_workingHalf d 0 0 _ [] _ 0 0 (q_kc (t, r, m, z, N, ext, rx, L) I E 0 [some (.ref 400)] [] [] [])
  refine q_blk 3 [] (c' := q_kc (t, r, m, z, N, ext, rx, L) I E 3 [some (.ref 400)] [.int ((I 457) 9)] [] []) ok_X12_workingHalf rfl q_cn ?_
  cases hf
  exact q_kri ok_X12_workingHalf rfl rfl rfl (Nat.le_of_ble_eq_true rfl) (Nat.le_of_ble_eq_true rfl) ⟨rfl, q_hpe (q_pdw [] rfl rfl) (q_pdw [] rfl rfl)⟩
set_option maxHeartbeats 4000000 in
theorem ct_X12_usedPlaces_400 {g : q_G} {t : Nat} {r : Nat} {m : Nat} {z : Nat} {N : Nat} {ext : Nat → q_Sh} {rx : Nat → Nat → Option Nat} {L : Nat → Nat → Int64} {d : Nat} (hd : 1 ≤ d)  {I : Nat → Nat → Int32} {E : Nat → Nat → Option Nat} {r0 : Int32} (hf : f_X12_usedPlaces (I 457) = some r0) : q_Ct g m_X12_usedPlaces d 0 0 [] [.ref 400] (q_hp (t, r, m, z, N, ext, rx, L) I E) (fun o h' => o = .inl (some (.int r0)) ∧ h' = q_hp (t, r, m, z, N, ext, rx, L) (q_ws I []) (q_ws E [])) := by
  rw [f_X12_usedPlaces] at hf
  refine q_Ct_of ok_X12_usedPlaces (Nat.le_of_ble_eq_true rfl) ?_ _ rfl rfl
  change q_J g m_X12_usedPlaces d 0 0 _ [] _ 0 0 (q_kc (t, r, m, z, N, ext, rx, L) I E 0 [some (.ref 400)] [] [] [])
  refine q_blk 3 [] (c' := q_kc (t, r, m, z, N, ext, rx, L) I E 3 [some (.ref 400)] [.int ((I 457) 8)] [] []) ok_X12_usedPlaces rfl q_cn ?_
  cases hf
  exact q_kri ok_X12_usedPlaces rfl rfl rfl (Nat.le_of_ble_eq_true rfl) (Nat.le_of_ble_eq_true rfl) ⟨rfl, q_hpe (q_pdw [] rfl rfl) (q_pdw [] rfl rfl)⟩
set_option maxHeartbeats 4000000 in
theorem ct_X5_at_465 {g : q_G} {t : Nat} {r : Nat} {m : Nat} {z : Nat} {N : Nat} {ext : Nat → q_Sh} {rx : Nat → Nat → Option Nat} {L : Nat → Nat → Int64} {d : Nat} (hd : 1 ≤ d)  {I : Nat → Nat → Int32} {E : Nat → Nat → Option Nat} {x1 : Int32} {r0 : Int32} (hf : f_X5_at (I 465) (I 466) x1 = some r0) : q_Ct g m_X5_at d 0 0 [] [.ref 465, .int x1] (q_hp (t, r, m, z, N, ext, rx, L) I E) (fun o h' => o = .inl (some (.int r0)) ∧ h' = q_hp (t, r, m, z, N, ext, rx, L) (q_ws I []) (q_ws E [])) := by
  rw [f_X5_at] at hf
  refine q_Ct_of ok_X5_at (Nat.le_of_ble_eq_true rfl) ?_ _ rfl rfl
  change q_J g m_X5_at d 0 0 _ [] _ 0 0 (q_kc (t, r, m, z, N, ext, rx, L) I E 0 [some (.ref 465), some (.int x1)] [] [] [])
  refine q_blf 1 [] (a := q_kc (t, r, m, z, N, ext, rx, L) I E 14 [some (.ref 465), some (.int x1)] [] [] []) (b := q_kc (t, r, m, z, N, ext, rx, L) I E 2 [some (.ref 465), some (.int x1)] [] [] []) (P := x1 < 0) ok_X5_at rfl q_cn (fun h1 => ?_) (fun h1 => ?_)
  · have hf := q_ip h1 hf
    refine q_blk 1 [] (c' := q_kc (t, r, m, z, N, ext, rx, L) I E 15 [some (.ref 465), some (.int x1)] [.int (-1 : Int32)] [] []) ok_X5_at rfl q_cn ?_
    cases hf
    exact q_kri ok_X5_at rfl rfl rfl (Nat.le_of_ble_eq_true rfl) (Nat.le_of_ble_eq_true rfl) ⟨rfl, q_hpe (q_pdw [] rfl rfl) (q_pdw [] rfl rfl)⟩
  · have hf := q_in h1 hf
    refine q_blf 3 [] (a := q_kc (t, r, m, z, N, ext, rx, L) I E 14 [some (.ref 465), some (.int x1)] [] [] []) (b := q_kc (t, r, m, z, N, ext, rx, L) I E 6 [some (.ref 465), some (.int x1)] [] [] []) (P := ((I 465) 1) ≤ x1) ok_X5_at rfl q_cn (fun h2 => ?_) (fun h2 => ?_)
    · have hf := q_ip h2 hf
      refine q_blk 1 [] (c' := q_kc (t, r, m, z, N, ext, rx, L) I E 15 [some (.ref 465), some (.int x1)] [.int (-1 : Int32)] [] []) ok_X5_at rfl q_cn ?_
      cases hf
      exact q_kri ok_X5_at rfl rfl rfl (Nat.le_of_ble_eq_true rfl) (Nat.le_of_ble_eq_true rfl) ⟨rfl, q_hpe (q_pdw [] rfl rfl) (q_pdw [] rfl rfl)⟩
    · have hf := q_in h2 hf
      refine q_blf 2 [] (a := q_kc (t, r, m, z, N, ext, rx, L) I E 14 [some (.ref 465), some (.int x1)] [] [] []) (b := q_kc (t, r, m, z, N, ext, rx, L) I E 9 [some (.ref 465), some (.int x1)] [] [] []) (P := (64 : Int32) ≤ x1) ok_X5_at rfl q_cn (fun h3 => ?_) (fun h3 => ?_)
      · have hf := q_ip h3 hf
        refine q_blk 1 [] (c' := q_kc (t, r, m, z, N, ext, rx, L) I E 15 [some (.ref 465), some (.int x1)] [.int (-1 : Int32)] [] []) ok_X5_at rfl q_cn ?_
        cases hf
        exact q_kri ok_X5_at rfl rfl rfl (Nat.le_of_ble_eq_true rfl) (Nat.le_of_ble_eq_true rfl) ⟨rfl, q_hpe (q_pdw [] rfl rfl) (q_pdw [] rfl rfl)⟩
      · have hf := q_in h3 hf
        obtain ⟨j4, hj4, hf⟩ := q_bd hf
        refine q_blk 5 [j4] (c' := q_kc (t, r, m, z, N, ext, rx, L) I E 15 [some (.ref 465), some (.int x1)] [.int ((I 466) j4)] [] []) ok_X5_at rfl (q_cc hj4 q_cn) ?_
        cases hf
        exact q_kri ok_X5_at rfl rfl rfl (Nat.le_of_ble_eq_true rfl) (Nat.le_of_ble_eq_true rfl) ⟨rfl, q_hpe (q_pdw [] rfl rfl) (q_pdw [] rfl rfl)⟩
set_option maxHeartbeats 4000000 in
theorem lp_X5_usedCount_L4_465 {g : q_G} {d mc ms : Nat} {h0 : q_H} {Q : (Option Value ⊕ String) → q_H → Prop} {k n : Nat} {t : Nat} {r : Nat} {m : Nat} {z : Nat} {N : Nat} {ext : Nat → q_Sh} {rx : Nat → Nat → Option Nat} {L : Nat → Nat → Int64} (hd : 2 ≤ d) (hk : k ≤ mc) (hn : n ≤ ms)  : ∀ (fu : Nat) {I : Nat → Nat → Int32} {E : Nat → Nat → Option Nat} {v1 : Int32} {v2 : Int32} {r0 : Int32} (hf : f_X5_usedCount_L4 (I 465) (I 466) fu v1 v2 = some r0) (hK0 : q_J g m_X5_usedCount d mc ms h0 [] Q k n (q_kc (t, r, m, z, N, ext, rx, L) I E 16 [none, some (.int r0), none] [] [] [])), q_J g m_X5_usedCount d mc ms h0 [] Q k n (4, [some (.ref 465), some (.int v1), some (.int v2)], [], q_hp (t, r, m, z, N, ext, rx, L) I E) := by
  intro fu
  induction fu with
  | zero =>
    intro I E v1 v2 r0 hf hK0
    rw [f_X5_usedCount_L4] at hf
    cases hf
  | succ fu ih =>
    intro I E v1 v2 r0 hf hK0
    rw [f_X5_usedCount_L4] at hf
    change q_J g m_X5_usedCount d mc ms h0 [] Q k n (q_kc (t, r, m, z, N, ext, rx, L) I E 4 [some (.ref 465), some (.int v1), some (.int v2)] [] [] [])
    refine q_blf 3 [] (a := q_kc (t, r, m, z, N, ext, rx, L) I E 16 [some (.ref 465), some (.int v1), some (.int v2)] [] [] []) (b := q_kc (t, r, m, z, N, ext, rx, L) I E 8 [some (.ref 465), some (.int v1), some (.int v2)] [] [] []) (P := ((I 465) 1) ≤ v2) ok_X5_usedCount rfl q_cn (fun h1 => ?_) (fun h1 => ?_)
    · have hf := q_ip h1 hf
      refine q_less (ls' := [none, some (.int v1), none]) (q_sb1 (q_sb2 (q_sb1 q_sb0))) ?_
      cases hf
      exact q_Jpad (q_pdw [] rfl rfl) (q_pdw [] rfl rfl) hK0
    · have hf := q_in h1 hf
      refine q_blk 2 [] (c' := q_kc (t, r, m, z, N, ext, rx, L) I E 10 [some (.ref 465), some (.int v1), some (.int v2)] [.int v2, .ref 465] [] []) ok_X5_usedCount rfl q_cn ?_
      obtain ⟨r2, hr2, hf⟩ := q_bd hf
      refine q_kV (M2 := m_X5_at) (As := [.int v2]) (b := 465) (v2 := some (.int r2)) ok_X5_usedCount ok_X5_at cv_X5_at (ct_X5_at_465 (d := 1) (Nat.le_refl _) hr2) rfl rfl (Or.inl rfl) rfl rfl rfl rfl (Nat.le_trans (Nat.le_of_ble_eq_true rfl) hd) hk hn (Nat.le_of_ble_eq_true rfl) (fun x hx => absurd hx List.not_mem_nil) (q_nmL0 _) (q_nmS0 _) rfl (pos' := 11) (st' := [.int r2]) (lI' := []) (lE' := []) rfl rfl rfl rfl ?_
      refine q_blf 1 [] (a := q_kc (t, r, m, z, N, ext, rx, L) I E 14 [some (.ref 465), some (.int v1), some (.int v2)] [] [] []) (b := q_kc (t, r, m, z, N, ext, rx, L) I E 13 [some (.ref 465), some (.int v1), some (.int v2)] [] [] []) (P := r2 = (-1 : Int32)) ok_X5_usedCount rfl q_cn (fun h3 => ?_) (fun h3 => ?_)
      · have hf := q_ip h3 hf
        refine q_blk 2 [] (c' := q_kc (t, r, m, z, N, ext, rx, L) I E 4 [some (.ref 465), some (.int v1), some (.int (v2 + 1))] [] [] []) ok_X5_usedCount rfl q_cn ?_
        exact ih (I := q_ws I []) (E := q_ws E []) hf (q_Jmrg (q_mgw rfl rfl) (q_mgw rfl rfl) hK0)
      · have hf := q_in h3 hf
        refine q_blk 3 [] (c' := q_kc (t, r, m, z, N, ext, rx, L) I E 4 [some (.ref 465), some (.int (v1 + 1)), some (.int (v2 + 1))] [] [] []) ok_X5_usedCount rfl q_cn ?_
        exact ih (I := q_ws I []) (E := q_ws E []) hf (q_Jmrg (q_mgw rfl rfl) (q_mgw rfl rfl) hK0)
set_option maxHeartbeats 4000000 in
theorem ct_X5_usedCount_465 {g : q_G} {t : Nat} {r : Nat} {m : Nat} {z : Nat} {N : Nat} {ext : Nat → q_Sh} {rx : Nat → Nat → Option Nat} {L : Nat → Nat → Int64} {d : Nat} (hd : 2 ≤ d)  {I : Nat → Nat → Int32} {E : Nat → Nat → Option Nat} {r0 : Int32} (hf : f_X5_usedCount (I 465) (I 466) = some r0) : q_Ct g m_X5_usedCount d 0 0 [] [.ref 465] (q_hp (t, r, m, z, N, ext, rx, L) I E) (fun o h' => o = .inl (some (.int r0)) ∧ h' = q_hp (t, r, m, z, N, ext, rx, L) (q_ws I []) (q_ws E [])) := by
  rw [f_X5_usedCount] at hf
  refine q_Ct_of ok_X5_usedCount (Nat.le_of_ble_eq_true rfl) ?_ _ rfl rfl
  change q_J g m_X5_usedCount d 0 0 _ [] _ 0 0 (q_kc (t, r, m, z, N, ext, rx, L) I E 0 [some (.ref 465), none, none] [] [] [])
  refine q_blk 4 [] (c' := q_kc (t, r, m, z, N, ext, rx, L) I E 4 [some (.ref 465), some (.int (0 : Int32)), some (.int (0 : Int32))] [] [] []) ok_X5_usedCount rfl q_cn ?_
  obtain ⟨r4, hr4, hf⟩ := q_bd hf
  refine lp_X5_usedCount_L4_465 (I := q_ws I []) (E := q_ws E []) hd (Nat.le_of_ble_eq_true rfl) (Nat.le_of_ble_eq_true rfl) 4096 hr4 ?_
  refine q_Jmrg (lI' := []) (lE' := []) (q_mgw rfl rfl) (q_mgw rfl rfl) ?_
  refine q_blk 1 [] (c' := q_kc (t, r, m, z, N, ext, rx, L) I E 17 [none, some (.int r4), none] [.int r4] [] []) ok_X5_usedCount rfl q_cn ?_
  cases hf
  exact q_kri ok_X5_usedCount rfl rfl rfl (Nat.le_of_ble_eq_true rfl) (Nat.le_of_ble_eq_true rfl) ⟨rfl, q_hpe (q_pdw [] rfl rfl) (q_pdw [] rfl rfl)⟩
set_option maxHeartbeats 4000000 in
theorem ct_X12_usedInLoft_400 {g : q_G} {t : Nat} {r : Nat} {m : Nat} {z : Nat} {N : Nat} {ext : Nat → q_Sh} {rx : Nat → Nat → Option Nat} {L : Nat → Nat → Int64} {d : Nat} (hd : 3 ≤ d)  {I : Nat → Nat → Int32} {E : Nat → Nat → Option Nat} {r0 : Int32} (hf : f_X12_usedInLoft (I 465) (I 466) = some r0) : q_Ct g m_X12_usedInLoft d 0 0 [] [.ref 400] (q_hp (t, r, m, z, N, ext, rx, L) I E) (fun o h' => o = .inl (some (.int r0)) ∧ h' = q_hp (t, r, m, z, N, ext, rx, L) (q_ws I []) (q_ws E [])) := by
  rw [f_X12_usedInLoft] at hf
  refine q_Ct_of ok_X12_usedInLoft (Nat.le_of_ble_eq_true rfl) ?_ _ rfl rfl
  change q_J g m_X12_usedInLoft d 0 0 _ [] _ 0 0 (q_kc (t, r, m, z, N, ext, rx, L) I E 0 [some (.ref 400)] [] [] [])
  refine q_blk 3 [] (c' := q_kc (t, r, m, z, N, ext, rx, L) I E 3 [some (.ref 400)] [.ref 465] [] []) ok_X12_usedInLoft rfl q_cn ?_
  obtain ⟨r1, hr1, hf⟩ := q_bd hf
  refine q_kV (M2 := m_X5_usedCount) (As := []) (b := 465) (v2 := some (.int r1)) ok_X12_usedInLoft ok_X5_usedCount cv_X5_usedCount (ct_X5_usedCount_465 (d := 2) (Nat.le_refl _) hr1) rfl rfl (Or.inl rfl) rfl rfl rfl rfl (Nat.le_trans (Nat.le_of_ble_eq_true rfl) hd) (Nat.le_of_ble_eq_true rfl) (Nat.le_of_ble_eq_true rfl) (Nat.le_of_ble_eq_true rfl) (fun x hx => absurd hx List.not_mem_nil) (q_nmL0 _) (q_nmS0 _) rfl (pos' := 4) (st' := [.int r1]) (lI' := []) (lE' := []) rfl rfl rfl rfl ?_
  cases hf
  exact q_kri ok_X12_usedInLoft rfl rfl rfl (Nat.le_of_ble_eq_true rfl) (Nat.le_of_ble_eq_true rfl) ⟨rfl, q_hpe (q_pdw [] rfl rfl) (q_pdw [] rfl rfl)⟩
set_option maxHeartbeats 4000000 in
theorem lp_X5_widestGap_L6_465 {g : q_G} {d mc ms : Nat} {h0 : q_H} {Q : (Option Value ⊕ String) → q_H → Prop} {k n : Nat} {t : Nat} {r : Nat} {m : Nat} {z : Nat} {N : Nat} {ext : Nat → q_Sh} {rx : Nat → Nat → Option Nat} {L : Nat → Nat → Int64} (hd : 2 ≤ d) (hk : k ≤ mc) (hn : n ≤ ms)  : ∀ (fu : Nat) {I : Nat → Nat → Int32} {E : Nat → Nat → Option Nat} {v1 : Int32} {v2 : Int32} {v3 : Int32} {r0 : Int32} (hf : f_X5_widestGap_L6 (I 465) (I 466) fu v1 v2 v3 = some r0) (hK0 : q_J g m_X5_widestGap d mc ms h0 [] Q k n (q_kc (t, r, m, z, N, ext, rx, L) I E 27 [none, some (.int r0), none, none] [] [] [])), q_J g m_X5_widestGap d mc ms h0 [] Q k n (6, [some (.ref 465), some (.int v1), some (.int v2), some (.int v3)], [], q_hp (t, r, m, z, N, ext, rx, L) I E) := by
  intro fu
  induction fu with
  | zero =>
    intro I E v1 v2 v3 r0 hf hK0
    rw [f_X5_widestGap_L6] at hf
    cases hf
  | succ fu ih =>
    intro I E v1 v2 v3 r0 hf hK0
    rw [f_X5_widestGap_L6] at hf
    change q_J g m_X5_widestGap d mc ms h0 [] Q k n (q_kc (t, r, m, z, N, ext, rx, L) I E 6 [some (.ref 465), some (.int v1), some (.int v2), some (.int v3)] [] [] [])
    refine q_blf 3 [] (a := q_kc (t, r, m, z, N, ext, rx, L) I E 27 [some (.ref 465), some (.int v1), some (.int v2), some (.int v3)] [] [] []) (b := q_kc (t, r, m, z, N, ext, rx, L) I E 10 [some (.ref 465), some (.int v1), some (.int v2), some (.int v3)] [] [] []) (P := ((I 465) 1) ≤ v3) ok_X5_widestGap rfl q_cn (fun h1 => ?_) (fun h1 => ?_)
    · have hf := q_ip h1 hf
      refine q_less (ls' := [none, some (.int v1), none, none]) (q_sb1 (q_sb2 (q_sb1 (q_sb1 q_sb0)))) ?_
      cases hf
      exact q_Jpad (q_pdw [] rfl rfl) (q_pdw [] rfl rfl) hK0
    · have hf := q_in h1 hf
      refine q_blk 2 [] (c' := q_kc (t, r, m, z, N, ext, rx, L) I E 12 [some (.ref 465), some (.int v1), some (.int v2), some (.int v3)] [.int v3, .ref 465] [] []) ok_X5_widestGap rfl q_cn ?_
      obtain ⟨r2, hr2, hf⟩ := q_bd hf
      refine q_kV (M2 := m_X5_at) (As := [.int v3]) (b := 465) (v2 := some (.int r2)) ok_X5_widestGap ok_X5_at cv_X5_at (ct_X5_at_465 (d := 1) (Nat.le_refl _) hr2) rfl rfl (Or.inl rfl) rfl rfl rfl rfl (Nat.le_trans (Nat.le_of_ble_eq_true rfl) hd) hk hn (Nat.le_of_ble_eq_true rfl) (fun x hx => absurd hx List.not_mem_nil) (q_nmL0 _) (q_nmS0 _) rfl (pos' := 13) (st' := [.int r2]) (lI' := []) (lE' := []) rfl rfl rfl rfl ?_
      refine q_blf 1 [] (a := q_kc (t, r, m, z, N, ext, rx, L) I E 19 [some (.ref 465), some (.int v1), some (.int v2), some (.int v3)] [] [] []) (b := q_kc (t, r, m, z, N, ext, rx, L) I E 15 [some (.ref 465), some (.int v1), some (.int v2), some (.int v3)] [] [] []) (P := ¬ r2 = (-1 : Int32)) ok_X5_widestGap rfl q_cn (fun h3 => ?_) (fun h3 => ?_)
      · have hf := q_ip h3 hf
        refine q_blk 4 [] (c' := q_kc (t, r, m, z, N, ext, rx, L) I E 23 [some (.ref 465), some (.int v1), some (.int (0 : Int32)), some (.int v3)] [.int (0 : Int32), .int v1] [] []) ok_X5_widestGap rfl q_cn ?_
        refine q_kmx (pos' := 24) ok_X5_widestGap rfl rfl (Nat.le_trans (Nat.le_of_ble_eq_true rfl) hd) (Nat.le_of_ble_eq_true rfl) hk hn rfl ?_
        refine q_blk 3 [] (c' := q_kc (t, r, m, z, N, ext, rx, L) I E 6 [some (.ref 465), some (.int (q_max v1 (0 : Int32))), some (.int (0 : Int32)), some (.int (v3 + 1))] [] [] []) ok_X5_widestGap rfl q_cn ?_
        exact ih (I := q_ws I []) (E := q_ws E []) hf (q_Jmrg (q_mgw rfl rfl) (q_mgw rfl rfl) hK0)
      · have hf := q_in h3 hf
        refine q_blk 7 [] (c' := q_kc (t, r, m, z, N, ext, rx, L) I E 23 [some (.ref 465), some (.int v1), some (.int (v2 + (1 : Int32))), some (.int v3)] [.int (v2 + (1 : Int32)), .int v1] [] []) ok_X5_widestGap rfl q_cn ?_
        refine q_kmx (pos' := 24) ok_X5_widestGap rfl rfl (Nat.le_trans (Nat.le_of_ble_eq_true rfl) hd) (Nat.le_of_ble_eq_true rfl) hk hn rfl ?_
        refine q_blk 3 [] (c' := q_kc (t, r, m, z, N, ext, rx, L) I E 6 [some (.ref 465), some (.int (q_max v1 (v2 + (1 : Int32)))), some (.int (v2 + (1 : Int32))), some (.int (v3 + 1))] [] [] []) ok_X5_widestGap rfl q_cn ?_
        exact ih (I := q_ws I []) (E := q_ws E []) hf (q_Jmrg (q_mgw rfl rfl) (q_mgw rfl rfl) hK0)
set_option maxHeartbeats 4000000 in
theorem ct_X5_widestGap_465 {g : q_G} {t : Nat} {r : Nat} {m : Nat} {z : Nat} {N : Nat} {ext : Nat → q_Sh} {rx : Nat → Nat → Option Nat} {L : Nat → Nat → Int64} {d : Nat} (hd : 2 ≤ d)  {I : Nat → Nat → Int32} {E : Nat → Nat → Option Nat} {r0 : Int32} (hf : f_X5_widestGap (I 465) (I 466) = some r0) : q_Ct g m_X5_widestGap d 0 0 [] [.ref 465] (q_hp (t, r, m, z, N, ext, rx, L) I E) (fun o h' => o = .inl (some (.int r0)) ∧ h' = q_hp (t, r, m, z, N, ext, rx, L) (q_ws I []) (q_ws E [])) := by
  rw [f_X5_widestGap] at hf
  refine q_Ct_of ok_X5_widestGap (Nat.le_of_ble_eq_true rfl) ?_ _ rfl rfl
  change q_J g m_X5_widestGap d 0 0 _ [] _ 0 0 (q_kc (t, r, m, z, N, ext, rx, L) I E 0 [some (.ref 465), none, none, none] [] [] [])
  refine q_blk 6 [] (c' := q_kc (t, r, m, z, N, ext, rx, L) I E 6 [some (.ref 465), some (.int (0 : Int32)), some (.int (0 : Int32)), some (.int (0 : Int32))] [] [] []) ok_X5_widestGap rfl q_cn ?_
  obtain ⟨r4, hr4, hf⟩ := q_bd hf
  refine lp_X5_widestGap_L6_465 (I := q_ws I []) (E := q_ws E []) hd (Nat.le_of_ble_eq_true rfl) (Nat.le_of_ble_eq_true rfl) 4096 hr4 ?_
  refine q_Jmrg (lI' := []) (lE' := []) (q_mgw rfl rfl) (q_mgw rfl rfl) ?_
  refine q_blk 1 [] (c' := q_kc (t, r, m, z, N, ext, rx, L) I E 28 [none, some (.int r4), none, none] [.int r4] [] []) ok_X5_widestGap rfl q_cn ?_
  cases hf
  exact q_kri ok_X5_widestGap rfl rfl rfl (Nat.le_of_ble_eq_true rfl) (Nat.le_of_ble_eq_true rfl) ⟨rfl, q_hpe (q_pdw [] rfl rfl) (q_pdw [] rfl rfl)⟩
set_option maxHeartbeats 4000000 in
theorem ct_X12_longestGap_400 {g : q_G} {t : Nat} {r : Nat} {m : Nat} {z : Nat} {N : Nat} {ext : Nat → q_Sh} {rx : Nat → Nat → Option Nat} {L : Nat → Nat → Int64} {d : Nat} (hd : 3 ≤ d)  {I : Nat → Nat → Int32} {E : Nat → Nat → Option Nat} {r0 : Int32} (hf : f_X12_longestGap (I 465) (I 466) = some r0) : q_Ct g m_X12_longestGap d 0 0 [] [.ref 400] (q_hp (t, r, m, z, N, ext, rx, L) I E) (fun o h' => o = .inl (some (.int r0)) ∧ h' = q_hp (t, r, m, z, N, ext, rx, L) (q_ws I []) (q_ws E [])) := by
  rw [f_X12_longestGap] at hf
  refine q_Ct_of ok_X12_longestGap (Nat.le_of_ble_eq_true rfl) ?_ _ rfl rfl
  change q_J g m_X12_longestGap d 0 0 _ [] _ 0 0 (q_kc (t, r, m, z, N, ext, rx, L) I E 0 [some (.ref 400)] [] [] [])
  refine q_blk 3 [] (c' := q_kc (t, r, m, z, N, ext, rx, L) I E 3 [some (.ref 400)] [.ref 465] [] []) ok_X12_longestGap rfl q_cn ?_
  obtain ⟨r1, hr1, hf⟩ := q_bd hf
  refine q_kV (M2 := m_X5_widestGap) (As := []) (b := 465) (v2 := some (.int r1)) ok_X12_longestGap ok_X5_widestGap cv_X5_widestGap (ct_X5_widestGap_465 (d := 2) (Nat.le_refl _) hr1) rfl rfl (Or.inl rfl) rfl rfl rfl rfl (Nat.le_trans (Nat.le_of_ble_eq_true rfl) hd) (Nat.le_of_ble_eq_true rfl) (Nat.le_of_ble_eq_true rfl) (Nat.le_of_ble_eq_true rfl) (fun x hx => absurd hx List.not_mem_nil) (q_nmL0 _) (q_nmS0 _) rfl (pos' := 4) (st' := [.int r1]) (lI' := []) (lE' := []) rfl rfl rfl rfl ?_
  cases hf
  exact q_kri ok_X12_longestGap rfl rfl rfl (Nat.le_of_ble_eq_true rfl) (Nat.le_of_ble_eq_true rfl) ⟨rfl, q_hpe (q_pdw [] rfl rfl) (q_pdw [] rfl rfl)⟩
set_option maxHeartbeats 4000000 in
theorem ct_X2_baleCount_457 {g : q_G} {t : Nat} {r : Nat} {m : Nat} {z : Nat} {N : Nat} {ext : Nat → q_Sh} {rx : Nat → Nat → Option Nat} {L : Nat → Nat → Int64} {d : Nat} (hd : 1 ≤ d)  {I : Nat → Nat → Int32} {E : Nat → Nat → Option Nat} {r0 : Int32} (hf : f_X2_baleCount (I 457) (I 465) = some r0) : q_Ct g m_X2_baleCount d 0 0 [] [.ref 457] (q_hp (t, r, m, z, N, ext, rx, L) I E) (fun o h' => o = .inl (some (.int r0)) ∧ h' = q_hp (t, r, m, z, N, ext, rx, L) (q_ws I []) (q_ws E [])) := by
  rw [f_X2_baleCount] at hf
  refine q_Ct_of ok_X2_baleCount (Nat.le_of_ble_eq_true rfl) ?_ _ rfl rfl
  change q_J g m_X2_baleCount d 0 0 _ [] _ 0 0 (q_kc (t, r, m, z, N, ext, rx, L) I E 0 [some (.ref 457)] [] [] [])
  refine q_blk 6 [] (c' := q_kc (t, r, m, z, N, ext, rx, L) I E 6 [some (.ref 457)] [.int (((I 457) 7) + ((I 465) 2))] [] []) ok_X2_baleCount rfl q_cn ?_
  cases hf
  exact q_kri ok_X2_baleCount rfl rfl rfl (Nat.le_of_ble_eq_true rfl) (Nat.le_of_ble_eq_true rfl) ⟨rfl, q_hpe (q_pdw [] rfl rfl) (q_pdw [] rfl rfl)⟩
set_option maxHeartbeats 4000000 in
theorem ct_X12_bales_400 {g : q_G} {t : Nat} {r : Nat} {m : Nat} {z : Nat} {N : Nat} {ext : Nat → q_Sh} {rx : Nat → Nat → Option Nat} {L : Nat → Nat → Int64} {d : Nat} (hd : 2 ≤ d)  {I : Nat → Nat → Int32} {E : Nat → Nat → Option Nat} {r0 : Int32} (hf : f_X12_bales (I 457) (I 465) = some r0) : q_Ct g m_X12_bales d 0 0 [] [.ref 400] (q_hp (t, r, m, z, N, ext, rx, L) I E) (fun o h' => o = .inl (some (.int r0)) ∧ h' = q_hp (t, r, m, z, N, ext, rx, L) (q_ws I []) (q_ws E [])) := by
  rw [f_X12_bales] at hf
  refine q_Ct_of ok_X12_bales (Nat.le_of_ble_eq_true rfl) ?_ _ rfl rfl
  change q_J g m_X12_bales d 0 0 _ [] _ 0 0 (q_kc (t, r, m, z, N, ext, rx, L) I E 0 [some (.ref 400)] [] [] [])
  refine q_blk 2 [] (c' := q_kc (t, r, m, z, N, ext, rx, L) I E 2 [some (.ref 400)] [.ref 457] [] []) ok_X12_bales rfl q_cn ?_
  obtain ⟨r1, hr1, hf⟩ := q_bd hf
  refine q_kV (M2 := m_X2_baleCount) (As := []) (b := 457) (v2 := some (.int r1)) ok_X12_bales ok_X2_baleCount cv_X2_baleCount (ct_X2_baleCount_457 (d := 1) (Nat.le_refl _) hr1) rfl rfl (Or.inl rfl) rfl rfl rfl rfl (Nat.le_trans (Nat.le_of_ble_eq_true rfl) hd) (Nat.le_of_ble_eq_true rfl) (Nat.le_of_ble_eq_true rfl) (Nat.le_of_ble_eq_true rfl) (fun x hx => absurd hx List.not_mem_nil) (q_nmL0 _) (q_nmS0 _) rfl (pos' := 3) (st' := [.int r1]) (lI' := []) (lE' := []) rfl rfl rfl rfl ?_
  cases hf
  exact q_kri ok_X12_bales rfl rfl rfl (Nat.le_of_ble_eq_true rfl) (Nat.le_of_ble_eq_true rfl) ⟨rfl, q_hpe (q_pdw [] rfl rfl) (q_pdw [] rfl rfl)⟩
set_option maxHeartbeats 4000000 in
theorem ct_X12_balesInLoft_400 {g : q_G} {t : Nat} {r : Nat} {m : Nat} {z : Nat} {N : Nat} {ext : Nat → q_Sh} {rx : Nat → Nat → Option Nat} {L : Nat → Nat → Int64} {d : Nat} (hd : 1 ≤ d)  {I : Nat → Nat → Int32} {E : Nat → Nat → Option Nat} {r0 : Int32} (hf : f_X12_balesInLoft (I 465) = some r0) : q_Ct g m_X12_balesInLoft d 0 0 [] [.ref 400] (q_hp (t, r, m, z, N, ext, rx, L) I E) (fun o h' => o = .inl (some (.int r0)) ∧ h' = q_hp (t, r, m, z, N, ext, rx, L) (q_ws I []) (q_ws E [])) := by
  rw [f_X12_balesInLoft] at hf
  refine q_Ct_of ok_X12_balesInLoft (Nat.le_of_ble_eq_true rfl) ?_ _ rfl rfl
  change q_J g m_X12_balesInLoft d 0 0 _ [] _ 0 0 (q_kc (t, r, m, z, N, ext, rx, L) I E 0 [some (.ref 400)] [] [] [])
  refine q_blk 4 [] (c' := q_kc (t, r, m, z, N, ext, rx, L) I E 4 [some (.ref 400)] [.int ((I 465) 2)] [] []) ok_X12_balesInLoft rfl q_cn ?_
  cases hf
  exact q_kri ok_X12_balesInLoft rfl rfl rfl (Nat.le_of_ble_eq_true rfl) (Nat.le_of_ble_eq_true rfl) ⟨rfl, q_hpe (q_pdw [] rfl rfl) (q_pdw [] rfl rfl)⟩
set_option maxHeartbeats 4000000 in
theorem ct_X4_clear_467 {g : q_G} {t : Nat} {r : Nat} {m : Nat} {z : Nat} {N : Nat} {ext : Nat → q_Sh} {rx : Nat → Nat → Option Nat} {L : Nat → Nat → Int64} {d : Nat} (hd : 2 ≤ d)  {I : Nat → Nat → Int32} {E : Nat → Nat → Option Nat} {r0 : (Nat → Int32) × (Nat → Int32)} (hf : f_X4_clear (I 467) (I 469) = some r0) : q_Ct g m_X4_clear d 0 0 [] [.ref 467] (q_hp (t, r, m, z, N, ext, rx, L) I E) (fun o h' => o = .inl none ∧ h' = q_hp (t, r, m, z, N, ext, rx, L) (q_ws I [(467, r0.1), (469, r0.2)]) (q_ws E [])) := by
  rw [f_X4_clear] at hf
  refine q_Ct_of ok_X4_clear (Nat.le_of_ble_eq_true rfl) ?_ _ rfl rfl
  change q_J g m_X4_clear d 0 0 _ [] _ 0 0 (q_kc (t, r, m, z, N, ext, rx, L) I E 0 [some (.ref 467)] [] [] [])
  refine q_blk 3 [] (c' := q_kc (t, r, m, z, N, ext, rx, L) I E 3 [some (.ref 467)] [.int (-1 : Int32), .ref 469] [] []) ok_X4_clear rfl q_cn ?_
  refine q_kS (M2 := m_J7_fill_53178) (As := [.ref 469, .int (-1 : Int32)]) (v2 := none) ok_X4_clear ok_J7_fill_53178 cs_J7_fill_53178 (ct_fill (d := 1) (a := 469) (L := 128) (Nat.le_refl _) rfl rfl rfl) rfl rfl (Or.inl rfl) (Nat.le_trans (Nat.le_of_ble_eq_true rfl) hd) (Nat.le_of_ble_eq_true rfl) (Nat.le_of_ble_eq_true rfl) (Nat.le_of_ble_eq_true rfl) (fun x hx => absurd hx List.not_mem_nil) (q_nmL0 _) (q_nmS0 _) rfl (pos' := 4) (st' := []) (lI' := [(469, (q_fil 128 (-1 : Int32) (I 469)))]) (lE' := []) rfl rfl (q_mgw rfl rfl) rfl ?_
  refine q_blk 3 [] (c' := q_kc (t, r, m, z, N, ext, rx, L) I E 7 [some (.ref 467)] [] [(467, (q_up (I 467) 2 (0 : Int32))), (469, (q_fil 128 (-1 : Int32) (I 469)))] []) ok_X4_clear rfl q_cn ?_
  cases hf
  exact q_krv ok_X4_clear rfl rfl (Nat.le_of_ble_eq_true rfl) (Nat.le_of_ble_eq_true rfl) ⟨rfl, q_hpe (q_pdw [467, 469] rfl rfl) (q_pdw [] rfl rfl)⟩
set_option maxHeartbeats 4000000 in
theorem ct_X2_held_457 {g : q_G} {t : Nat} {r : Nat} {m : Nat} {z : Nat} {N : Nat} {ext : Nat → q_Sh} {rx : Nat → Nat → Option Nat} {L : Nat → Nat → Int64} {d : Nat} (hd : 1 ≤ d)  {I : Nat → Nat → Int32} {E : Nat → Nat → Option Nat} {x1 : Int32} {r0 : Int32} (hf : f_X2_held (I 470) x1 = some r0) : q_Ct g m_X2_held d 0 0 [] [.ref 457, .int x1] (q_hp (t, r, m, z, N, ext, rx, L) I E) (fun o h' => o = .inl (some (.int r0)) ∧ h' = q_hp (t, r, m, z, N, ext, rx, L) (q_ws I []) (q_ws E [])) := by
  rw [f_X2_held] at hf
  refine q_Ct_of ok_X2_held (Nat.le_of_ble_eq_true rfl) ?_ _ rfl rfl
  change q_J g m_X2_held d 0 0 _ [] _ 0 0 (q_kc (t, r, m, z, N, ext, rx, L) I E 0 [some (.ref 457), some (.int x1)] [] [] [])
  refine q_blf 1 [] (a := q_kc (t, r, m, z, N, ext, rx, L) I E 10 [some (.ref 457), some (.int x1)] [] [] []) (b := q_kc (t, r, m, z, N, ext, rx, L) I E 2 [some (.ref 457), some (.int x1)] [] [] []) (P := x1 < 0) ok_X2_held rfl q_cn (fun h1 => ?_) (fun h1 => ?_)
  · have hf := q_ip h1 hf
    refine q_blk 1 [] (c' := q_kc (t, r, m, z, N, ext, rx, L) I E 11 [some (.ref 457), some (.int x1)] [.int (-1 : Int32)] [] []) ok_X2_held rfl q_cn ?_
    cases hf
    exact q_kri ok_X2_held rfl rfl rfl (Nat.le_of_ble_eq_true rfl) (Nat.le_of_ble_eq_true rfl) ⟨rfl, q_hpe (q_pdw [] rfl rfl) (q_pdw [] rfl rfl)⟩
  · have hf := q_in h1 hf
    refine q_blf 2 [] (a := q_kc (t, r, m, z, N, ext, rx, L) I E 10 [some (.ref 457), some (.int x1)] [] [] []) (b := q_kc (t, r, m, z, N, ext, rx, L) I E 5 [some (.ref 457), some (.int x1)] [] [] []) (P := (6 : Int32) ≤ x1) ok_X2_held rfl q_cn (fun h2 => ?_) (fun h2 => ?_)
    · have hf := q_ip h2 hf
      refine q_blk 1 [] (c' := q_kc (t, r, m, z, N, ext, rx, L) I E 11 [some (.ref 457), some (.int x1)] [.int (-1 : Int32)] [] []) ok_X2_held rfl q_cn ?_
      cases hf
      exact q_kri ok_X2_held rfl rfl rfl (Nat.le_of_ble_eq_true rfl) (Nat.le_of_ble_eq_true rfl) ⟨rfl, q_hpe (q_pdw [] rfl rfl) (q_pdw [] rfl rfl)⟩
    · have hf := q_in h2 hf
      obtain ⟨j3, hj3, hf⟩ := q_bd hf
      refine q_blk 5 [j3] (c' := q_kc (t, r, m, z, N, ext, rx, L) I E 11 [some (.ref 457), some (.int x1)] [.int ((I 470) j3)] [] []) ok_X2_held rfl (q_cc hj3 q_cn) ?_
      cases hf
      exact q_kri ok_X2_held rfl rfl rfl (Nat.le_of_ble_eq_true rfl) (Nat.le_of_ble_eq_true rfl) ⟨rfl, q_hpe (q_pdw [] rfl rfl) (q_pdw [] rfl rfl)⟩
set_option maxHeartbeats 4000000 in
theorem ct_X4_add_467 {g : q_G} {t : Nat} {r : Nat} {m : Nat} {z : Nat} {N : Nat} {ext : Nat → q_Sh} {rx : Nat → Nat → Option Nat} {L : Nat → Nat → Int64} {d : Nat} (hd : 1 ≤ d)  {I : Nat → Nat → Int32} {E : Nat → Nat → Option Nat} {x1 : Int32} {x2 : Int32} {r0 : Bool × (Nat → Int32) × (Nat → Int32) × (Nat → Int32)} (hf : f_X4_add (I 467) (I 468) (I 469) x1 x2 = some r0) : q_Ct g m_X4_add d 0 0 [] [.ref 467, .int x1, .int x2] (q_hp (t, r, m, z, N, ext, rx, L) I E) (fun o h' => o = .inl (some (.int (q_bz r0.1))) ∧ h' = q_hp (t, r, m, z, N, ext, rx, L) (q_ws I [(467, r0.2.1), (468, r0.2.2.1), (469, r0.2.2.2)]) (q_ws E [])) := by
  rw [f_X4_add] at hf
  refine q_Ct_of ok_X4_add (Nat.le_of_ble_eq_true rfl) ?_ _ rfl rfl
  change q_J g m_X4_add d 0 0 _ [] _ 0 0 (q_kc (t, r, m, z, N, ext, rx, L) I E 0 [some (.ref 467), some (.int x1), some (.int x2)] [] [] [])
  refine q_blf 1 [] (a := q_kc (t, r, m, z, N, ext, rx, L) I E 12 [some (.ref 467), some (.int x1), some (.int x2)] [] [] []) (b := q_kc (t, r, m, z, N, ext, rx, L) I E 2 [some (.ref 467), some (.int x1), some (.int x2)] [] [] []) (P := x1 < 0) ok_X4_add rfl q_cn (fun h1 => ?_) (fun h1 => ?_)
  · have hf := q_ip h1 hf
    refine q_blk 1 [] (c' := q_kc (t, r, m, z, N, ext, rx, L) I E 13 [some (.ref 467), some (.int x1), some (.int x2)] [.int (0 : Int32)] [] []) ok_X4_add rfl q_cn ?_
    cases hf
    exact q_kri ok_X4_add rfl rfl rfl (Nat.le_of_ble_eq_true rfl) (Nat.le_of_ble_eq_true rfl) ⟨rfl, q_hpe (q_pdw [467, 468, 469] rfl rfl) (q_pdw [] rfl rfl)⟩
  · have hf := q_in h1 hf
    refine q_blf 2 [] (a := q_kc (t, r, m, z, N, ext, rx, L) I E 12 [some (.ref 467), some (.int x1), some (.int x2)] [] [] []) (b := q_kc (t, r, m, z, N, ext, rx, L) I E 5 [some (.ref 467), some (.int x1), some (.int x2)] [] [] []) (P := (128 : Int32) ≤ x1) ok_X4_add rfl q_cn (fun h2 => ?_) (fun h2 => ?_)
    · have hf := q_ip h2 hf
      refine q_blk 1 [] (c' := q_kc (t, r, m, z, N, ext, rx, L) I E 13 [some (.ref 467), some (.int x1), some (.int x2)] [.int (0 : Int32)] [] []) ok_X4_add rfl q_cn ?_
      cases hf
      exact q_kri ok_X4_add rfl rfl rfl (Nat.le_of_ble_eq_true rfl) (Nat.le_of_ble_eq_true rfl) ⟨rfl, q_hpe (q_pdw [467, 468, 469] rfl rfl) (q_pdw [] rfl rfl)⟩
    · have hf := q_in h2 hf
      refine q_blf 2 [] (a := q_kc (t, r, m, z, N, ext, rx, L) I E 12 [some (.ref 467), some (.int x1), some (.int x2)] [] [] []) (b := q_kc (t, r, m, z, N, ext, rx, L) I E 8 [some (.ref 467), some (.int x1), some (.int x2)] [] [] []) (P := ((I 467) 2) < 0) ok_X4_add rfl q_cn (fun h3 => ?_) (fun h3 => ?_)
      · have hf := q_ip h3 hf
        refine q_blk 1 [] (c' := q_kc (t, r, m, z, N, ext, rx, L) I E 13 [some (.ref 467), some (.int x1), some (.int x2)] [.int (0 : Int32)] [] []) ok_X4_add rfl q_cn ?_
        cases hf
        exact q_kri ok_X4_add rfl rfl rfl (Nat.le_of_ble_eq_true rfl) (Nat.le_of_ble_eq_true rfl) ⟨rfl, q_hpe (q_pdw [467, 468, 469] rfl rfl) (q_pdw [] rfl rfl)⟩
      · have hf := q_in h3 hf
        refine q_blf 3 [] (a := q_kc (t, r, m, z, N, ext, rx, L) I E 14 [some (.ref 467), some (.int x1), some (.int x2)] [] [] []) (b := q_kc (t, r, m, z, N, ext, rx, L) I E 12 [some (.ref 467), some (.int x1), some (.int x2)] [] [] []) (P := ((I 467) 2) < (128 : Int32)) ok_X4_add rfl q_cn (fun h4 => ?_) (fun h4 => ?_)
        · have hf := q_ip h4 hf
          obtain ⟨j5, hj5, hf⟩ := q_bd hf
          refine q_blf 5 [j5] (a := q_kc (t, r, m, z, N, ext, rx, L) I E 22 [some (.ref 467), some (.int x1), some (.int x2)] [] [] []) (b := q_kc (t, r, m, z, N, ext, rx, L) I E 20 [some (.ref 467), some (.int x1), some (.int x2)] [] [] []) (P := ((I 469) j5) = (-1 : Int32)) ok_X4_add rfl (q_cc hj5 q_cn) (fun h6 => ?_) (fun h6 => ?_)
          · have hf := q_ip h6 hf
            obtain ⟨j7, hj7, hf⟩ := q_bd hf
            obtain ⟨j8, hj8, hf⟩ := q_bd hf
            refine q_blk 18 [j7, j8] (c' := q_kc (t, r, m, z, N, ext, rx, L) I E 40 [some (.ref 467), some (.int x1), some (.int x2)] [.int (1 : Int32)] [(467, (q_up (I 467) 2 (((I 467) 2) + (1 : Int32)))), (468, (q_up (I 468) j8 x1)), (469, (q_up (I 469) j7 x2))] []) ok_X4_add rfl (q_cc hj8 (q_cc hj7 q_cn)) ?_
            cases hf
            exact q_kri ok_X4_add rfl rfl rfl (Nat.le_of_ble_eq_true rfl) (Nat.le_of_ble_eq_true rfl) ⟨rfl, q_hpe (q_pdw [467, 468, 469] rfl rfl) (q_pdw [] rfl rfl)⟩
          · have hf := q_in h6 hf
            refine q_blk 1 [] (c' := q_kc (t, r, m, z, N, ext, rx, L) I E 21 [some (.ref 467), some (.int x1), some (.int x2)] [.int (0 : Int32)] [] []) ok_X4_add rfl q_cn ?_
            cases hf
            exact q_kri ok_X4_add rfl rfl rfl (Nat.le_of_ble_eq_true rfl) (Nat.le_of_ble_eq_true rfl) ⟨rfl, q_hpe (q_pdw [467, 468, 469] rfl rfl) (q_pdw [] rfl rfl)⟩
        · have hf := q_in h4 hf
          refine q_blk 1 [] (c' := q_kc (t, r, m, z, N, ext, rx, L) I E 13 [some (.ref 467), some (.int x1), some (.int x2)] [.int (0 : Int32)] [] []) ok_X4_add rfl q_cn ?_
          cases hf
          exact q_kri ok_X4_add rfl rfl rfl (Nat.le_of_ble_eq_true rfl) (Nat.le_of_ble_eq_true rfl) ⟨rfl, q_hpe (q_pdw [467, 468, 469] rfl rfl) (q_pdw [] rfl rfl)⟩
set_option maxHeartbeats 4000000 in
theorem ct_X4_length_467 {g : q_G} {t : Nat} {r : Nat} {m : Nat} {z : Nat} {N : Nat} {ext : Nat → q_Sh} {rx : Nat → Nat → Option Nat} {L : Nat → Nat → Int64} {d : Nat} (hd : 1 ≤ d)  {I : Nat → Nat → Int32} {E : Nat → Nat → Option Nat} {r0 : Int32} (hf : f_X4_length (I 467) = some r0) : q_Ct g m_X4_length d 0 0 [] [.ref 467] (q_hp (t, r, m, z, N, ext, rx, L) I E) (fun o h' => o = .inl (some (.int r0)) ∧ h' = q_hp (t, r, m, z, N, ext, rx, L) (q_ws I []) (q_ws E [])) := by
  rw [f_X4_length] at hf
  refine q_Ct_of ok_X4_length (Nat.le_of_ble_eq_true rfl) ?_ _ rfl rfl
  change q_J g m_X4_length d 0 0 _ [] _ 0 0 (q_kc (t, r, m, z, N, ext, rx, L) I E 0 [some (.ref 467)] [] [] [])
  refine q_blk 2 [] (c' := q_kc (t, r, m, z, N, ext, rx, L) I E 2 [some (.ref 467)] [.int ((I 467) 2)] [] []) ok_X4_length rfl q_cn ?_
  cases hf
  exact q_kri ok_X4_length rfl rfl rfl (Nat.le_of_ble_eq_true rfl) (Nat.le_of_ble_eq_true rfl) ⟨rfl, q_hpe (q_pdw [] rfl rfl) (q_pdw [] rfl rfl)⟩
set_option maxHeartbeats 4000000 in
theorem ct_X4_at_467 {g : q_G} {t : Nat} {r : Nat} {m : Nat} {z : Nat} {N : Nat} {ext : Nat → q_Sh} {rx : Nat → Nat → Option Nat} {L : Nat → Nat → Int64} {d : Nat} (hd : 1 ≤ d)  {I : Nat → Nat → Int32} {E : Nat → Nat → Option Nat} {x1 : Int32} {r0 : Int32} (hf : f_X4_at (I 467) (I 468) x1 = some r0) : q_Ct g m_X4_at d 0 0 [] [.ref 467, .int x1] (q_hp (t, r, m, z, N, ext, rx, L) I E) (fun o h' => o = .inl (some (.int r0)) ∧ h' = q_hp (t, r, m, z, N, ext, rx, L) (q_ws I []) (q_ws E [])) := by
  rw [f_X4_at] at hf
  refine q_Ct_of ok_X4_at (Nat.le_of_ble_eq_true rfl) ?_ _ rfl rfl
  change q_J g m_X4_at d 0 0 _ [] _ 0 0 (q_kc (t, r, m, z, N, ext, rx, L) I E 0 [some (.ref 467), some (.int x1)] [] [] [])
  refine q_blf 1 [] (a := q_kc (t, r, m, z, N, ext, rx, L) I E 14 [some (.ref 467), some (.int x1)] [] [] []) (b := q_kc (t, r, m, z, N, ext, rx, L) I E 2 [some (.ref 467), some (.int x1)] [] [] []) (P := x1 < 0) ok_X4_at rfl q_cn (fun h1 => ?_) (fun h1 => ?_)
  · have hf := q_ip h1 hf
    refine q_blk 1 [] (c' := q_kc (t, r, m, z, N, ext, rx, L) I E 15 [some (.ref 467), some (.int x1)] [.int (-1 : Int32)] [] []) ok_X4_at rfl q_cn ?_
    cases hf
    exact q_kri ok_X4_at rfl rfl rfl (Nat.le_of_ble_eq_true rfl) (Nat.le_of_ble_eq_true rfl) ⟨rfl, q_hpe (q_pdw [] rfl rfl) (q_pdw [] rfl rfl)⟩
  · have hf := q_in h1 hf
    refine q_blf 3 [] (a := q_kc (t, r, m, z, N, ext, rx, L) I E 14 [some (.ref 467), some (.int x1)] [] [] []) (b := q_kc (t, r, m, z, N, ext, rx, L) I E 6 [some (.ref 467), some (.int x1)] [] [] []) (P := ((I 467) 2) ≤ x1) ok_X4_at rfl q_cn (fun h2 => ?_) (fun h2 => ?_)
    · have hf := q_ip h2 hf
      refine q_blk 1 [] (c' := q_kc (t, r, m, z, N, ext, rx, L) I E 15 [some (.ref 467), some (.int x1)] [.int (-1 : Int32)] [] []) ok_X4_at rfl q_cn ?_
      cases hf
      exact q_kri ok_X4_at rfl rfl rfl (Nat.le_of_ble_eq_true rfl) (Nat.le_of_ble_eq_true rfl) ⟨rfl, q_hpe (q_pdw [] rfl rfl) (q_pdw [] rfl rfl)⟩
    · have hf := q_in h2 hf
      refine q_blf 2 [] (a := q_kc (t, r, m, z, N, ext, rx, L) I E 14 [some (.ref 467), some (.int x1)] [] [] []) (b := q_kc (t, r, m, z, N, ext, rx, L) I E 9 [some (.ref 467), some (.int x1)] [] [] []) (P := (128 : Int32) ≤ x1) ok_X4_at rfl q_cn (fun h3 => ?_) (fun h3 => ?_)
      · have hf := q_ip h3 hf
        refine q_blk 1 [] (c' := q_kc (t, r, m, z, N, ext, rx, L) I E 15 [some (.ref 467), some (.int x1)] [.int (-1 : Int32)] [] []) ok_X4_at rfl q_cn ?_
        cases hf
        exact q_kri ok_X4_at rfl rfl rfl (Nat.le_of_ble_eq_true rfl) (Nat.le_of_ble_eq_true rfl) ⟨rfl, q_hpe (q_pdw [] rfl rfl) (q_pdw [] rfl rfl)⟩
      · have hf := q_in h3 hf
        obtain ⟨j4, hj4, hf⟩ := q_bd hf
        refine q_blk 5 [j4] (c' := q_kc (t, r, m, z, N, ext, rx, L) I E 15 [some (.ref 467), some (.int x1)] [.int ((I 468) j4)] [] []) ok_X4_at rfl (q_cc hj4 q_cn) ?_
        cases hf
        exact q_kri ok_X4_at rfl rfl rfl (Nat.le_of_ble_eq_true rfl) (Nat.le_of_ble_eq_true rfl) ⟨rfl, q_hpe (q_pdw [] rfl rfl) (q_pdw [] rfl rfl)⟩
set_option maxHeartbeats 4000000 in
theorem ct_X1_ropes_458 {g : q_G} {t : Nat} {r : Nat} {m : Nat} {z : Nat} {N : Nat} {ext : Nat → q_Sh} {rx : Nat → Nat → Option Nat} {L : Nat → Nat → Int64} {d : Nat} (hd : 1 ≤ d)  {I : Nat → Nat → Int32} {E : Nat → Nat → Option Nat} {x1 : Int32} {r0 : Int32} (hf : f_X1_ropes (I 463) x1 = some r0) : q_Ct g m_X1_ropes d 0 0 [] [.ref 458, .int x1] (q_hp (t, r, m, z, N, ext, rx, L) I E) (fun o h' => o = .inl (some (.int r0)) ∧ h' = q_hp (t, r, m, z, N, ext, rx, L) (q_ws I []) (q_ws E [])) := by
  rw [f_X1_ropes] at hf
  refine q_Ct_of ok_X1_ropes (Nat.le_of_ble_eq_true rfl) ?_ _ rfl rfl
  change q_J g m_X1_ropes d 0 0 _ [] _ 0 0 (q_kc (t, r, m, z, N, ext, rx, L) I E 0 [some (.ref 458), some (.int x1)] [] [] [])
  refine q_blf 1 [] (a := q_kc (t, r, m, z, N, ext, rx, L) I E 10 [some (.ref 458), some (.int x1)] [] [] []) (b := q_kc (t, r, m, z, N, ext, rx, L) I E 2 [some (.ref 458), some (.int x1)] [] [] []) (P := x1 < 0) ok_X1_ropes rfl q_cn (fun h1 => ?_) (fun h1 => ?_)
  · have hf := q_ip h1 hf
    refine q_blk 1 [] (c' := q_kc (t, r, m, z, N, ext, rx, L) I E 11 [some (.ref 458), some (.int x1)] [.int (0 : Int32)] [] []) ok_X1_ropes rfl q_cn ?_
    cases hf
    exact q_kri ok_X1_ropes rfl rfl rfl (Nat.le_of_ble_eq_true rfl) (Nat.le_of_ble_eq_true rfl) ⟨rfl, q_hpe (q_pdw [] rfl rfl) (q_pdw [] rfl rfl)⟩
  · have hf := q_in h1 hf
    refine q_blf 2 [] (a := q_kc (t, r, m, z, N, ext, rx, L) I E 10 [some (.ref 458), some (.int x1)] [] [] []) (b := q_kc (t, r, m, z, N, ext, rx, L) I E 5 [some (.ref 458), some (.int x1)] [] [] []) (P := (128 : Int32) ≤ x1) ok_X1_ropes rfl q_cn (fun h2 => ?_) (fun h2 => ?_)
    · have hf := q_ip h2 hf
      refine q_blk 1 [] (c' := q_kc (t, r, m, z, N, ext, rx, L) I E 11 [some (.ref 458), some (.int x1)] [.int (0 : Int32)] [] []) ok_X1_ropes rfl q_cn ?_
      cases hf
      exact q_kri ok_X1_ropes rfl rfl rfl (Nat.le_of_ble_eq_true rfl) (Nat.le_of_ble_eq_true rfl) ⟨rfl, q_hpe (q_pdw [] rfl rfl) (q_pdw [] rfl rfl)⟩
    · have hf := q_in h2 hf
      obtain ⟨j3, hj3, hf⟩ := q_bd hf
      refine q_blk 5 [j3] (c' := q_kc (t, r, m, z, N, ext, rx, L) I E 11 [some (.ref 458), some (.int x1)] [.int ((I 463) j3)] [] []) ok_X1_ropes rfl (q_cc hj3 q_cn) ?_
      cases hf
      exact q_kri ok_X1_ropes rfl rfl rfl (Nat.le_of_ble_eq_true rfl) (Nat.le_of_ble_eq_true rfl) ⟨rfl, q_hpe (q_pdw [] rfl rfl) (q_pdw [] rfl rfl)⟩
set_option maxHeartbeats 4000000 in
theorem ct_X1_hasRope_458 {g : q_G} {t : Nat} {r : Nat} {m : Nat} {z : Nat} {N : Nat} {ext : Nat → q_Sh} {rx : Nat → Nat → Option Nat} {L : Nat → Nat → Int64} {d : Nat} (hd : 1 ≤ d)  {I : Nat → Nat → Int32} {E : Nat → Nat → Option Nat} {x1 : Int32} {x2 : Int32} {r0 : Bool} (hf : f_X1_hasRope (I 463) x1 x2 = some r0) : q_Ct g m_X1_hasRope d 0 0 [] [.ref 458, .int x1, .int x2] (q_hp (t, r, m, z, N, ext, rx, L) I E) (fun o h' => o = .inl (some (.int (q_bz r0))) ∧ h' = q_hp (t, r, m, z, N, ext, rx, L) (q_ws I []) (q_ws E [])) := by
  rw [f_X1_hasRope] at hf
  refine q_Ct_of ok_X1_hasRope (Nat.le_of_ble_eq_true rfl) ?_ _ rfl rfl
  change q_J g m_X1_hasRope d 0 0 _ [] _ 0 0 (q_kc (t, r, m, z, N, ext, rx, L) I E 0 [some (.ref 458), some (.int x1), some (.int x2)] [] [] [])
  refine q_blf 1 [] (a := q_kc (t, r, m, z, N, ext, rx, L) I E 18 [some (.ref 458), some (.int x1), some (.int x2)] [] [] []) (b := q_kc (t, r, m, z, N, ext, rx, L) I E 2 [some (.ref 458), some (.int x1), some (.int x2)] [] [] []) (P := x1 < 0) ok_X1_hasRope rfl q_cn (fun h1 => ?_) (fun h1 => ?_)
  · have hf := q_ip h1 hf
    refine q_blk 1 [] (c' := q_kc (t, r, m, z, N, ext, rx, L) I E 19 [some (.ref 458), some (.int x1), some (.int x2)] [.int (0 : Int32)] [] []) ok_X1_hasRope rfl q_cn ?_
    cases hf
    exact q_kri ok_X1_hasRope rfl rfl rfl (Nat.le_of_ble_eq_true rfl) (Nat.le_of_ble_eq_true rfl) ⟨rfl, q_hpe (q_pdw [] rfl rfl) (q_pdw [] rfl rfl)⟩
  · have hf := q_in h1 hf
    refine q_blf 2 [] (a := q_kc (t, r, m, z, N, ext, rx, L) I E 18 [some (.ref 458), some (.int x1), some (.int x2)] [] [] []) (b := q_kc (t, r, m, z, N, ext, rx, L) I E 5 [some (.ref 458), some (.int x1), some (.int x2)] [] [] []) (P := (128 : Int32) ≤ x1) ok_X1_hasRope rfl q_cn (fun h2 => ?_) (fun h2 => ?_)
    · have hf := q_ip h2 hf
      refine q_blk 1 [] (c' := q_kc (t, r, m, z, N, ext, rx, L) I E 19 [some (.ref 458), some (.int x1), some (.int x2)] [.int (0 : Int32)] [] []) ok_X1_hasRope rfl q_cn ?_
      cases hf
      exact q_kri ok_X1_hasRope rfl rfl rfl (Nat.le_of_ble_eq_true rfl) (Nat.le_of_ble_eq_true rfl) ⟨rfl, q_hpe (q_pdw [] rfl rfl) (q_pdw [] rfl rfl)⟩
    · have hf := q_in h2 hf
      refine q_blf 1 [] (a := q_kc (t, r, m, z, N, ext, rx, L) I E 18 [some (.ref 458), some (.int x1), some (.int x2)] [] [] []) (b := q_kc (t, r, m, z, N, ext, rx, L) I E 7 [some (.ref 458), some (.int x1), some (.int x2)] [] [] []) (P := x2 < 0) ok_X1_hasRope rfl q_cn (fun h3 => ?_) (fun h3 => ?_)
      · have hf := q_ip h3 hf
        refine q_blk 1 [] (c' := q_kc (t, r, m, z, N, ext, rx, L) I E 19 [some (.ref 458), some (.int x1), some (.int x2)] [.int (0 : Int32)] [] []) ok_X1_hasRope rfl q_cn ?_
        cases hf
        exact q_kri ok_X1_hasRope rfl rfl rfl (Nat.le_of_ble_eq_true rfl) (Nat.le_of_ble_eq_true rfl) ⟨rfl, q_hpe (q_pdw [] rfl rfl) (q_pdw [] rfl rfl)⟩
      · have hf := q_in h3 hf
        refine q_blf 2 [] (a := q_kc (t, r, m, z, N, ext, rx, L) I E 18 [some (.ref 458), some (.int x1), some (.int x2)] [] [] []) (b := q_kc (t, r, m, z, N, ext, rx, L) I E 10 [some (.ref 458), some (.int x1), some (.int x2)] [] [] []) (P := (3 : Int32) ≤ x2) ok_X1_hasRope rfl q_cn (fun h4 => ?_) (fun h4 => ?_)
        · have hf := q_ip h4 hf
          refine q_blk 1 [] (c' := q_kc (t, r, m, z, N, ext, rx, L) I E 19 [some (.ref 458), some (.int x1), some (.int x2)] [.int (0 : Int32)] [] []) ok_X1_hasRope rfl q_cn ?_
          cases hf
          exact q_kri ok_X1_hasRope rfl rfl rfl (Nat.le_of_ble_eq_true rfl) (Nat.le_of_ble_eq_true rfl) ⟨rfl, q_hpe (q_pdw [] rfl rfl) (q_pdw [] rfl rfl)⟩
        · have hf := q_in h4 hf
          obtain ⟨j5, hj5, hf⟩ := q_bd hf
          refine q_blf 5 [j5] (a := q_kc (t, r, m, z, N, ext, rx, L) I E 18 [some (.ref 458), some (.int x1), some (.int x2)] [] [] []) (b := q_kc (t, r, m, z, N, ext, rx, L) I E 16 [some (.ref 458), some (.int x1), some (.int x2)] [] [] []) (P := ((I 463) j5) ≤ x2) ok_X1_hasRope rfl (q_cc hj5 q_cn) (fun h6 => ?_) (fun h6 => ?_)
          · have hf := q_ip h6 hf
            refine q_blk 1 [] (c' := q_kc (t, r, m, z, N, ext, rx, L) I E 19 [some (.ref 458), some (.int x1), some (.int x2)] [.int (0 : Int32)] [] []) ok_X1_hasRope rfl q_cn ?_
            cases hf
            exact q_kri ok_X1_hasRope rfl rfl rfl (Nat.le_of_ble_eq_true rfl) (Nat.le_of_ble_eq_true rfl) ⟨rfl, q_hpe (q_pdw [] rfl rfl) (q_pdw [] rfl rfl)⟩
          · have hf := q_in h6 hf
            refine q_blk 2 [] (c' := q_kc (t, r, m, z, N, ext, rx, L) I E 19 [some (.ref 458), some (.int x1), some (.int x2)] [.int (1 : Int32)] [] []) ok_X1_hasRope rfl q_cn ?_
            cases hf
            exact q_kri ok_X1_hasRope rfl rfl rfl (Nat.le_of_ble_eq_true rfl) (Nat.le_of_ble_eq_true rfl) ⟨rfl, q_hpe (q_pdw [] rfl rfl) (q_pdw [] rfl rfl)⟩
