set_option maxHeartbeats 4000000 in
theorem lp_X12_append_L2_400 {g : q_G} {d mc ms : Nat} {h0 : q_H} {Q : (Option Value ⊕ String) → q_H → Prop} {k n : Nat} {t : Nat} {r : Nat} {m : Nat} {z : Nat} {N : Nat} {ext : Nat → q_Sh} {rx : Nat → Nat → Option Nat} {L : Nat → Nat → Int64} (hd : 1 ≤ d) (hk : k ≤ mc) (hn : n ≤ ms)  {v1 : Int32} : ∀ (fu : Nat) {I : Nat → Nat → Int32} {E : Nat → Nat → Option Nat} {v2 : Int32} {r0 : (Nat → Int32) × (Nat → Int32)} (hf : f_X12_append_L2 v1 fu (I 400) (I 401) v2 = some r0) (hK0 : q_J g m_X12_append d mc ms h0 [] Q k n (q_kc (t, r, m, z, N, ext, rx, L) I E 28 [none, none, none] [] [(400, r0.1), (401, r0.2)] [])), q_J g m_X12_append d mc ms h0 [] Q k n (2, [some (.ref 400), some (.int v1), some (.int v2)], [], q_hp (t, r, m, z, N, ext, rx, L) I E) := by
  intro fu
  induction fu with
  | zero =>
    intro I E v2 r0 hf hK0
    rw [f_X12_append_L2] at hf
    cases hf
  | succ fu ih =>
    intro I E v2 r0 hf hK0
    rw [f_X12_append_L2] at hf
    change q_J g m_X12_append d mc ms h0 [] Q k n (q_kc (t, r, m, z, N, ext, rx, L) I E 2 [some (.ref 400), some (.int v1), some (.int v2)] [] [] [])
    refine q_blf 1 [] (a := q_kc (t, r, m, z, N, ext, rx, L) I E 28 [some (.ref 400), some (.int v1), some (.int v2)] [] [] []) (b := q_kc (t, r, m, z, N, ext, rx, L) I E 4 [some (.ref 400), some (.int v1), some (.int v2)] [] [] []) (P := v2 < 0) ok_X12_append rfl q_cn (fun h1 => ?_) (fun h1 => ?_)
    · have hf := q_ip h1 hf
      refine q_less (ls' := [none, none, none]) (q_sb1 (q_sb1 (q_sb1 q_sb0))) ?_
      cases hf
      exact q_Jpad [400, 401] [] rfl rfl hK0
    · have hf := q_in h1 hf
      refine q_blf 2 [] (a := q_kc (t, r, m, z, N, ext, rx, L) I E 26 [some (.ref 400), some (.int v1), some (.int v2)] [] [] []) (b := q_kc (t, r, m, z, N, ext, rx, L) I E 7 [some (.ref 400), some (.int v1), some (.int v2)] [] [] []) (P := ((I 400) 7) < 0) ok_X12_append rfl q_cn (fun h2 => ?_) (fun h2 => ?_)
      · have hf := q_ip h2 hf
        refine q_blk 2 [] (c' := q_kc (t, r, m, z, N, ext, rx, L) I E 2 [some (.ref 400), some (.int v1), some (.int (v2 + (-8)))] [] [] []) ok_X12_append rfl q_cn ?_
        exact ih (I := q_ws I []) (E := q_ws E []) hf (q_Jmrg rfl rfl hK0)
      · have hf := q_in h2 hf
        refine q_blf 3 [] (a := q_kc (t, r, m, z, N, ext, rx, L) I E 26 [some (.ref 400), some (.int v1), some (.int v2)] [] [] []) (b := q_kc (t, r, m, z, N, ext, rx, L) I E 11 [some (.ref 400), some (.int v1), some (.int v2)] [] [] []) (P := (2000 : Int32) ≤ ((I 400) 7)) ok_X12_append rfl q_cn (fun h3 => ?_) (fun h3 => ?_)
        · have hf := q_ip h3 hf
          refine q_blk 2 [] (c' := q_kc (t, r, m, z, N, ext, rx, L) I E 2 [some (.ref 400), some (.int v1), some (.int (v2 + (-8)))] [] [] []) ok_X12_append rfl q_cn ?_
          exact ih (I := q_ws I []) (E := q_ws E []) hf (q_Jmrg rfl rfl hK0)
        · have hf := q_in h3 hf
          obtain ⟨j4, hj4, hf⟩ := q_bd hf
          refine q_blk 17 [j4] (c' := q_kc (t, r, m, z, N, ext, rx, L) I E 2 [some (.ref 400), some (.int v1), some (.int (v2 + (-8)))] [] [(400, (q_up (I 400) 7 (((I 400) 7) + (1 : Int32)))), (401, (q_up (I 401) j4 ((v1 >>> (v2 &&& 31)).toInt8.toInt32).toInt8.toInt32))] []) ok_X12_append rfl (q_cc hj4 q_cn) ?_
          exact ih (I := q_ws I [(400, (q_up (I 400) 7 (((I 400) 7) + (1 : Int32)))), (401, (q_up (I 401) j4 ((v1 >>> (v2 &&& 31)).toInt8.toInt32).toInt8.toInt32))]) (E := q_ws E []) hf (q_Jmrg rfl rfl hK0)
set_option maxHeartbeats 4000000 in
theorem ct_X12_append_400 {g : q_G} {t : Nat} {r : Nat} {m : Nat} {z : Nat} {N : Nat} {ext : Nat → q_Sh} {rx : Nat → Nat → Option Nat} {L : Nat → Nat → Int64} {d : Nat} (hd : 1 ≤ d)  {I : Nat → Nat → Int32} {E : Nat → Nat → Option Nat} {x1 : Int32} {r0 : (Nat → Int32) × (Nat → Int32)} (hf : f_X12_append (I 400) (I 401) x1 = some r0) : q_Ct g m_X12_append d 0 0 [] [.ref 400, .int x1] (q_hp (t, r, m, z, N, ext, rx, L) I E) (fun o h' => o = .inl none ∧ h' = q_hp (t, r, m, z, N, ext, rx, L) (q_ws I [(400, r0.1), (401, r0.2)]) (q_ws E [])) := by
  rw [f_X12_append] at hf
  refine q_Ct_of ok_X12_append (Nat.le_of_ble_eq_true rfl) ?_ _ rfl rfl
  change q_J g m_X12_append d 0 0 _ [] _ 0 0 (q_kc (t, r, m, z, N, ext, rx, L) I E 0 [some (.ref 400), some (.int x1), none] [] [] [])
  refine q_blk 2 [] (c' := q_kc (t, r, m, z, N, ext, rx, L) I E 2 [some (.ref 400), some (.int x1), some (.int (24 : Int32))] [] [] []) ok_X12_append rfl q_cn ?_
  obtain ⟨r5, hr5, hf⟩ := q_bd hf
  refine lp_X12_append_L2_400 (I := q_ws I []) (E := q_ws E []) hd (Nat.le_of_ble_eq_true rfl) (Nat.le_of_ble_eq_true rfl) 4096 hr5 ?_
  refine q_Jmrg (lI' := [(400, r5.1), (401, r5.2)]) (lE' := []) rfl rfl ?_
  cases hf
  exact q_krv ok_X12_append rfl rfl (Nat.le_of_ble_eq_true rfl) (Nat.le_of_ble_eq_true rfl) ⟨rfl, q_hpe (q_fin [400, 401] rfl) (q_fin [] rfl)⟩
set_option maxHeartbeats 4000000 in
theorem ct_X12_feed_400 {g : q_G} {t : Nat} {r : Nat} {m : Nat} {z : Nat} {N : Nat} {ext : Nat → q_Sh} {rx : Nat → Nat → Option Nat} {L : Nat → Nat → Int64} {d : Nat} (hd : 6 ≤ d)  {I : Nat → Nat → Int32} {E : Nat → Nat → Option Nat} {x1 : Int32} {x2 : Int32} {x3 : Int32} {x4 : Int32} {x5 : Int32} {r0 : (Int32 ⊕ String) × (Nat → Int32) × (Nat → Int32)} (hf : f_X12_feed (I 400) (I 401) x1 x2 x3 x4 x5 = some r0) : q_Ct g m_X12_feed d 1 6 [] [.ref 400, .int x1, .int x2, .int x3, .int x4, .int x5] (q_hp (t, r, m, z, N, ext, rx, L) I E) (fun o h' => o = q_oI r0.1 ∧ h' = q_hp (t, r, m, z, N, ext, rx, L) (q_ws I [(400, r0.2.1), (401, r0.2.2)]) (q_ws E [])) := by
  rw [f_X12_feed] at hf
  refine q_Ct_of ok_X12_feed (Nat.le_of_ble_eq_true rfl) ?_ _ rfl rfl
  change q_J g m_X12_feed d 1 6 _ [] _ 0 0 (q_kc (t, r, m, z, N, ext, rx, L) I E 0 [some (.ref 400), some (.int x1), some (.int x2), some (.int x3), some (.int x4), some (.int x5)] [] [] [])
  refine q_blf 3 [] (a := q_kc (t, r, m, z, N, ext, rx, L) I E 9 [some (.ref 400), some (.int x1), some (.int x2), some (.int x3), some (.int x4), some (.int x5)] [] [] []) (b := q_kc (t, r, m, z, N, ext, rx, L) I E 4 [some (.ref 400), some (.int x1), some (.int x2), some (.int x3), some (.int x4), some (.int x5)] [] [] []) (P := ((I 400) 7) ≤ (1980 : Int32)) ok_X12_feed rfl q_cn (fun h1 => ?_) (fun h1 => ?_)
  · have hf := q_ip h1 hf
    refine q_blk 2 [] (c' := q_kc (t, r, m, z, N, ext, rx, L) I E 11 [some (.ref 400), some (.int x1), some (.int x2), some (.int x3), some (.int x4), some (.int x5)] [.int x1, .ref 400] [] []) ok_X12_feed rfl q_cn ?_
    obtain ⟨r2, hr2, hf⟩ := q_bd hf
    refine q_kV (M2 := m_X12_append) (As := [.int x1]) (b := 400) (v2 := none) ok_X12_feed ok_X12_append cv_X12_append (ct_X12_append_400 (d := 1) (Nat.le_refl _) hr2) rfl rfl (Or.inl rfl) rfl rfl rfl rfl (Nat.le_trans (Nat.le_of_ble_eq_true rfl) hd) (Nat.le_of_ble_eq_true rfl) (Nat.le_of_ble_eq_true rfl) (Nat.le_of_ble_eq_true rfl) (fun x hx => absurd hx List.not_mem_nil) (q_nmL0 _) (q_nmS0 _) rfl (pos' := 12) (st' := []) (lI' := [(400, r2.1), (401, r2.2)]) (lE' := []) rfl rfl rfl rfl ?_
    refine q_blk 2 [] (c' := q_kc (t, r, m, z, N, ext, rx, L) I E 14 [some (.ref 400), some (.int x1), some (.int x2), some (.int x3), some (.int x4), some (.int x5)] [.int x2, .ref 400] [(400, r2.1), (401, r2.2)] []) ok_X12_feed rfl q_cn ?_
    obtain ⟨r3, hr3, hf⟩ := q_bd hf
    refine q_kV (M2 := m_X12_append) (As := [.int x2]) (b := 400) (v2 := none) ok_X12_feed ok_X12_append cv_X12_append (ct_X12_append_400 (d := 1) (Nat.le_refl _) hr3) rfl rfl (Or.inl rfl) rfl rfl rfl rfl (Nat.le_trans (Nat.le_of_ble_eq_true rfl) hd) (Nat.le_of_ble_eq_true rfl) (Nat.le_of_ble_eq_true rfl) (Nat.le_of_ble_eq_true rfl) (fun x hx => absurd hx List.not_mem_nil) (q_nmL0 _) (q_nmS0 _) rfl (pos' := 15) (st' := []) (lI' := [(400, r3.1), (401, r3.2)]) (lE' := []) rfl rfl rfl rfl ?_
    refine q_blk 2 [] (c' := q_kc (t, r, m, z, N, ext, rx, L) I E 17 [some (.ref 400), some (.int x1), some (.int x2), some (.int x3), some (.int x4), some (.int x5)] [.int x3, .ref 400] [(400, r3.1), (401, r3.2)] []) ok_X12_feed rfl q_cn ?_
    obtain ⟨r4, hr4, hf⟩ := q_bd hf
    refine q_kV (M2 := m_X12_append) (As := [.int x3]) (b := 400) (v2 := none) ok_X12_feed ok_X12_append cv_X12_append (ct_X12_append_400 (d := 1) (Nat.le_refl _) hr4) rfl rfl (Or.inl rfl) rfl rfl rfl rfl (Nat.le_trans (Nat.le_of_ble_eq_true rfl) hd) (Nat.le_of_ble_eq_true rfl) (Nat.le_of_ble_eq_true rfl) (Nat.le_of_ble_eq_true rfl) (fun x hx => absurd hx List.not_mem_nil) (q_nmL0 _) (q_nmS0 _) rfl (pos' := 18) (st' := []) (lI' := [(400, r4.1), (401, r4.2)]) (lE' := []) rfl rfl rfl rfl ?_
    refine q_blk 2 [] (c' := q_kc (t, r, m, z, N, ext, rx, L) I E 20 [some (.ref 400), some (.int x1), some (.int x2), some (.int x3), some (.int x4), some (.int x5)] [.int x4, .ref 400] [(400, r4.1), (401, r4.2)] []) ok_X12_feed rfl q_cn ?_
    obtain ⟨r5, hr5, hf⟩ := q_bd hf
    refine q_kV (M2 := m_X12_append) (As := [.int x4]) (b := 400) (v2 := none) ok_X12_feed ok_X12_append cv_X12_append (ct_X12_append_400 (d := 1) (Nat.le_refl _) hr5) rfl rfl (Or.inl rfl) rfl rfl rfl rfl (Nat.le_trans (Nat.le_of_ble_eq_true rfl) hd) (Nat.le_of_ble_eq_true rfl) (Nat.le_of_ble_eq_true rfl) (Nat.le_of_ble_eq_true rfl) (fun x hx => absurd hx List.not_mem_nil) (q_nmL0 _) (q_nmS0 _) rfl (pos' := 21) (st' := []) (lI' := [(400, r5.1), (401, r5.2)]) (lE' := []) rfl rfl rfl rfl ?_
    refine q_blk 2 [] (c' := q_kc (t, r, m, z, N, ext, rx, L) I E 23 [some (.ref 400), some (.int x1), some (.int x2), some (.int x3), some (.int x4), some (.int x5)] [.int x5, .ref 400] [(400, r5.1), (401, r5.2)] []) ok_X12_feed rfl q_cn ?_
    obtain ⟨r6, hr6, hf⟩ := q_bd hf
    refine q_kV (M2 := m_X12_append) (As := [.int x5]) (b := 400) (v2 := none) ok_X12_feed ok_X12_append cv_X12_append (ct_X12_append_400 (d := 1) (Nat.le_refl _) hr6) rfl rfl (Or.inl rfl) rfl rfl rfl rfl (Nat.le_trans (Nat.le_of_ble_eq_true rfl) hd) (Nat.le_of_ble_eq_true rfl) (Nat.le_of_ble_eq_true rfl) (Nat.le_of_ble_eq_true rfl) (fun x hx => absurd hx List.not_mem_nil) (q_nmL0 _) (q_nmS0 _) rfl (pos' := 24) (st' := []) (lI' := [(400, r6.1), (401, r6.2)]) (lE' := []) rfl rfl rfl rfl ?_
    refine q_blk 2 [] (c' := q_kc (t, r, m, z, N, ext, rx, L) I E 26 [some (.ref 400), some (.int x1), some (.int x2), some (.int x3), some (.int x4), some (.int x5)] [.int (r6.1 7)] [(400, r6.1), (401, r6.2)] []) ok_X12_feed rfl q_cn ?_
    cases hf
    exact q_kri ok_X12_feed rfl rfl rfl (Nat.le_of_ble_eq_true rfl) (Nat.le_of_ble_eq_true rfl) ⟨rfl, q_hpe (q_fin [400, 401] rfl) (q_fin [] rfl)⟩
  · have hf := q_in h1 hf
    cases hf
    exact q_o_throwS ok_X12_feed rfl rfl rfl rfl rfl rfl q_inISE (by decide +kernel) (by decide +kernel) q_fitISE q_fits (Nat.le_trans (Nat.le_of_ble_eq_true rfl) hd) (Nat.le_of_ble_eq_true rfl) (Nat.le_of_ble_eq_true rfl) (Nat.le_of_ble_eq_true rfl) ⟨rfl, q_hpe (q_fin [400, 401] rfl) (q_fin [] rfl)⟩
set_option maxHeartbeats 4000000 in
theorem ct_X12_trim_400 {g : q_G} {t : Nat} {r : Nat} {m : Nat} {z : Nat} {N : Nat} {ext : Nat → q_Sh} {rx : Nat → Nat → Option Nat} {L : Nat → Nat → Int64} {d : Nat} (hd : 6 ≤ d)  {I : Nat → Nat → Int32} {E : Nat → Nat → Option Nat} {x1 : Int32} {r0 : (Int32 ⊕ String) × (Nat → Int32)} (hf : f_X12_trim (I 400) x1 = some r0) : q_Ct g m_X12_trim d 1 6 [] [.ref 400, .int x1] (q_hp (t, r, m, z, N, ext, rx, L) I E) (fun o h' => o = q_oI r0.1 ∧ h' = q_hp (t, r, m, z, N, ext, rx, L) (q_ws I [(400, r0.2)]) (q_ws E [])) := by
  rw [f_X12_trim] at hf
  refine q_Ct_of ok_X12_trim (Nat.le_of_ble_eq_true rfl) ?_ _ rfl rfl
  change q_J g m_X12_trim d 1 6 _ [] _ 0 0 (q_kc (t, r, m, z, N, ext, rx, L) I E 0 [some (.ref 400), some (.int x1)] [] [] [])
  refine q_blf 1 [] (a := q_kc (t, r, m, z, N, ext, rx, L) I E 6 [some (.ref 400), some (.int x1)] [] [] []) (b := q_kc (t, r, m, z, N, ext, rx, L) I E 2 [some (.ref 400), some (.int x1)] [] [] []) (P := x1 < 0) ok_X12_trim rfl q_cn (fun h1 => ?_) (fun h1 => ?_)
  · have hf := q_ip h1 hf
    cases hf
    exact q_o_throwS ok_X12_trim rfl rfl rfl rfl rfl rfl q_inIAE (by decide +kernel) (by decide +kernel) q_fitIAE q_fits (Nat.le_trans (Nat.le_of_ble_eq_true rfl) hd) (Nat.le_of_ble_eq_true rfl) (Nat.le_of_ble_eq_true rfl) (Nat.le_of_ble_eq_true rfl) ⟨rfl, q_hpe (q_fin [400] rfl) (q_fin [] rfl)⟩
  · have hf := q_in h1 hf
    refine q_blf 3 [] (a := q_kc (t, r, m, z, N, ext, rx, L) I E 11 [some (.ref 400), some (.int x1)] [] [] []) (b := q_kc (t, r, m, z, N, ext, rx, L) I E 6 [some (.ref 400), some (.int x1)] [] [] []) (P := x1 ≤ ((I 400) 7)) ok_X12_trim rfl q_cn (fun h2 => ?_) (fun h2 => ?_)
    · have hf := q_ip h2 hf
      refine q_blk 4 [] (c' := q_kc (t, r, m, z, N, ext, rx, L) I E 15 [some (.ref 400), some (.int x1)] [.int x1] [(400, (q_up (I 400) 7 x1))] []) ok_X12_trim rfl q_cn ?_
      cases hf
      exact q_kri ok_X12_trim rfl rfl rfl (Nat.le_of_ble_eq_true rfl) (Nat.le_of_ble_eq_true rfl) ⟨rfl, q_hpe (q_fin [400] rfl) (q_fin [] rfl)⟩
    · have hf := q_in h2 hf
      cases hf
      exact q_o_throwS ok_X12_trim rfl rfl rfl rfl rfl rfl q_inIAE (by decide +kernel) (by decide +kernel) q_fitIAE q_fits (Nat.le_trans (Nat.le_of_ble_eq_true rfl) hd) (Nat.le_of_ble_eq_true rfl) (Nat.le_of_ble_eq_true rfl) (Nat.le_of_ble_eq_true rfl) ⟨rfl, q_hpe (q_fin [400] rfl) (q_fin [] rfl)⟩
set_option maxHeartbeats 4000000 in
theorem ct_X12_errorAt_400 {g : q_G} {t : Nat} {r : Nat} {m : Nat} {z : Nat} {N : Nat} {ext : Nat → q_Sh} {rx : Nat → Nat → Option Nat} {L : Nat → Nat → Int64} {d : Nat} (hd : 1 ≤ d)  {I : Nat → Nat → Int32} {E : Nat → Nat → Option Nat} {r0 : Int32} (hf : f_X12_errorAt (I 400) = some r0) : q_Ct g m_X12_errorAt d 0 0 [] [.ref 400] (q_hp (t, r, m, z, N, ext, rx, L) I E) (fun o h' => o = .inl (some (.int r0)) ∧ h' = q_hp (t, r, m, z, N, ext, rx, L) (q_ws I []) (q_ws E [])) := by
  rw [f_X12_errorAt] at hf
  refine q_Ct_of ok_X12_errorAt (Nat.le_of_ble_eq_true rfl) ?_ _ rfl rfl
  change q_J g m_X12_errorAt d 0 0 _ [] _ 0 0 (q_kc (t, r, m, z, N, ext, rx, L) I E 0 [some (.ref 400)] [] [] [])
  refine q_blk 2 [] (c' := q_kc (t, r, m, z, N, ext, rx, L) I E 2 [some (.ref 400)] [.int ((I 400) 8)] [] []) ok_X12_errorAt rfl q_cn ?_
  cases hf
  exact q_kri ok_X12_errorAt rfl rfl rfl (Nat.le_of_ble_eq_true rfl) (Nat.le_of_ble_eq_true rfl) ⟨rfl, q_hpe (q_fin [] rfl) (q_fin [] rfl)⟩
set_option maxHeartbeats 4000000 in
theorem ct_X12_hooks_400 {g : q_G} {t : Nat} {r : Nat} {m : Nat} {z : Nat} {N : Nat} {ext : Nat → q_Sh} {rx : Nat → Nat → Option Nat} {L : Nat → Nat → Int64} {d : Nat} (hd : 1 ≤ d)  {I : Nat → Nat → Int32} {E : Nat → Nat → Option Nat} {r0 : Int32} (hf : f_X12_hooks (I 402) = some r0) : q_Ct g m_X12_hooks d 0 0 [] [.ref 400] (q_hp (t, r, m, z, N, ext, rx, L) I E) (fun o h' => o = .inl (some (.int r0)) ∧ h' = q_hp (t, r, m, z, N, ext, rx, L) (q_ws I []) (q_ws E [])) := by
  rw [f_X12_hooks] at hf
  refine q_Ct_of ok_X12_hooks (Nat.le_of_ble_eq_true rfl) ?_ _ rfl rfl
  change q_J g m_X12_hooks d 0 0 _ [] _ 0 0 (q_kc (t, r, m, z, N, ext, rx, L) I E 0 [some (.ref 400)] [] [] [])
  refine q_blk 3 [] (c' := q_kc (t, r, m, z, N, ext, rx, L) I E 3 [some (.ref 400)] [.int ((I 402) 3)] [] []) ok_X12_hooks rfl q_cn ?_
  cases hf
  exact q_kri ok_X12_hooks rfl rfl rfl (Nat.le_of_ble_eq_true rfl) (Nat.le_of_ble_eq_true rfl) ⟨rfl, q_hpe (q_fin [] rfl) (q_fin [] rfl)⟩
set_option maxHeartbeats 4000000 in
theorem ct_X12_steps_400 {g : q_G} {t : Nat} {r : Nat} {m : Nat} {z : Nat} {N : Nat} {ext : Nat → q_Sh} {rx : Nat → Nat → Option Nat} {L : Nat → Nat → Int64} {d : Nat} (hd : 1 ≤ d)  {I : Nat → Nat → Int32} {E : Nat → Nat → Option Nat} {r0 : Int32} (hf : f_X12_steps (I 402) = some r0) : q_Ct g m_X12_steps d 0 0 [] [.ref 400] (q_hp (t, r, m, z, N, ext, rx, L) I E) (fun o h' => o = .inl (some (.int r0)) ∧ h' = q_hp (t, r, m, z, N, ext, rx, L) (q_ws I []) (q_ws E [])) := by
  rw [f_X12_steps] at hf
  refine q_Ct_of ok_X12_steps (Nat.le_of_ble_eq_true rfl) ?_ _ rfl rfl
  change q_J g m_X12_steps d 0 0 _ [] _ 0 0 (q_kc (t, r, m, z, N, ext, rx, L) I E 0 [some (.ref 400)] [] [] [])
  refine q_blk 3 [] (c' := q_kc (t, r, m, z, N, ext, rx, L) I E 3 [some (.ref 400)] [.int ((I 402) 4)] [] []) ok_X12_steps rfl q_cn ?_
  cases hf
  exact q_kri ok_X12_steps rfl rfl rfl (Nat.le_of_ble_eq_true rfl) (Nat.le_of_ble_eq_true rfl) ⟨rfl, q_hpe (q_fin [] rfl) (q_fin [] rfl)⟩
set_option maxHeartbeats 4000000 in
theorem ct_X12_placesOfHalf_400 {g : q_G} {t : Nat} {r : Nat} {m : Nat} {z : Nat} {N : Nat} {ext : Nat → q_Sh} {rx : Nat → Nat → Option Nat} {L : Nat → Nat → Int64} {d : Nat} (hd : 1 ≤ d)  {I : Nat → Nat → Int32} {E : Nat → Nat → Option Nat} {r0 : Int32} (hf : f_X12_placesOfHalf (I 402) = some r0) : q_Ct g m_X12_placesOfHalf d 0 0 [] [.ref 400] (q_hp (t, r, m, z, N, ext, rx, L) I E) (fun o h' => o = .inl (some (.int r0)) ∧ h' = q_hp (t, r, m, z, N, ext, rx, L) (q_ws I []) (q_ws E [])) := by
  rw [f_X12_placesOfHalf] at hf
  refine q_Ct_of ok_X12_placesOfHalf (Nat.le_of_ble_eq_true rfl) ?_ _ rfl rfl
  change q_J g m_X12_placesOfHalf d 0 0 _ [] _ 0 0 (q_kc (t, r, m, z, N, ext, rx, L) I E 0 [some (.ref 400)] [] [] [])
  refine q_blk 3 [] (c' := q_kc (t, r, m, z, N, ext, rx, L) I E 3 [some (.ref 400)] [.int ((I 402) 0)] [] []) ok_X12_placesOfHalf rfl q_cn ?_
  cases hf
  exact q_kri ok_X12_placesOfHalf rfl rfl rfl (Nat.le_of_ble_eq_true rfl) (Nat.le_of_ble_eq_true rfl) ⟨rfl, q_hpe (q_fin [] rfl) (q_fin [] rfl)⟩
set_option maxHeartbeats 4000000 in
theorem ct_X12_stepsGoneBy_400 {g : q_G} {t : Nat} {r : Nat} {m : Nat} {z : Nat} {N : Nat} {ext : Nat → q_Sh} {rx : Nat → Nat → Option Nat} {L : Nat → Nat → Int64} {d : Nat} (hd : 1 ≤ d)  {I : Nat → Nat → Int32} {E : Nat → Nat → Option Nat} {r0 : Int32} (hf : f_X12_stepsGoneBy (I 457) = some r0) : q_Ct g m_X12_stepsGoneBy d 0 0 [] [.ref 400] (q_hp (t, r, m, z, N, ext, rx, L) I E) (fun o h' => o = .inl (some (.int r0)) ∧ h' = q_hp (t, r, m, z, N, ext, rx, L) (q_ws I []) (q_ws E [])) := by
  rw [f_X12_stepsGoneBy] at hf
  refine q_Ct_of ok_X12_stepsGoneBy (Nat.le_of_ble_eq_true rfl) ?_ _ rfl rfl
  change q_J g m_X12_stepsGoneBy d 0 0 _ [] _ 0 0 (q_kc (t, r, m, z, N, ext, rx, L) I E 0 [some (.ref 400)] [] [] [])
  refine q_blk 3 [] (c' := q_kc (t, r, m, z, N, ext, rx, L) I E 3 [some (.ref 400)] [.int ((I 457) 10)] [] []) ok_X12_stepsGoneBy rfl q_cn ?_
  cases hf
  exact q_kri ok_X12_stepsGoneBy rfl rfl rfl (Nat.le_of_ble_eq_true rfl) (Nat.le_of_ble_eq_true rfl) ⟨rfl, q_hpe (q_fin [] rfl) (q_fin [] rfl)⟩
set_option maxHeartbeats 4000000 in
theorem ct_X12_stepsRefused_400 {g : q_G} {t : Nat} {r : Nat} {m : Nat} {z : Nat} {N : Nat} {ext : Nat → q_Sh} {rx : Nat → Nat → Option Nat} {L : Nat → Nat → Int64} {d : Nat} (hd : 1 ≤ d)  {I : Nat → Nat → Int32} {E : Nat → Nat → Option Nat} {r0 : Int32} (hf : f_X12_stepsRefused (I 457) = some r0) : q_Ct g m_X12_stepsRefused d 0 0 [] [.ref 400] (q_hp (t, r, m, z, N, ext, rx, L) I E) (fun o h' => o = .inl (some (.int r0)) ∧ h' = q_hp (t, r, m, z, N, ext, rx, L) (q_ws I []) (q_ws E [])) := by
  rw [f_X12_stepsRefused] at hf
  refine q_Ct_of ok_X12_stepsRefused (Nat.le_of_ble_eq_true rfl) ?_ _ rfl rfl
  change q_J g m_X12_stepsRefused d 0 0 _ [] _ 0 0 (q_kc (t, r, m, z, N, ext, rx, L) I E 0 [some (.ref 400)] [] [] [])
  refine q_blk 3 [] (c' := q_kc (t, r, m, z, N, ext, rx, L) I E 3 [some (.ref 400)] [.int ((I 457) 11)] [] []) ok_X12_stepsRefused rfl q_cn ?_
  cases hf
  exact q_kri ok_X12_stepsRefused rfl rfl rfl (Nat.le_of_ble_eq_true rfl) (Nat.le_of_ble_eq_true rfl) ⟨rfl, q_hpe (q_fin [] rfl) (q_fin [] rfl)⟩
set_option maxHeartbeats 4000000 in
theorem ct_X12_workingHalf_400 {g : q_G} {t : Nat} {r : Nat} {m : Nat} {z : Nat} {N : Nat} {ext : Nat → q_Sh} {rx : Nat → Nat → Option Nat} {L : Nat → Nat → Int64} {d : Nat} (hd : 1 ≤ d)  {I : Nat → Nat → Int32} {E : Nat → Nat → Option Nat} {r0 : Int32} (hf : f_X12_workingHalf (I 457) = some r0) : q_Ct g m_X12_workingHalf d 0 0 [] [.ref 400] (q_hp (t, r, m, z, N, ext, rx, L) I E) (fun o h' => o = .inl (some (.int r0)) ∧ h' = q_hp (t, r, m, z, N, ext, rx, L) (q_ws I []) (q_ws E [])) := by
  rw [f_X12_workingHalf] at hf
  refine q_Ct_of ok_X12_workingHalf (Nat.le_of_ble_eq_true rfl) ?_ _ rfl rfl
  change q_J g m_X12_workingHalf d 0 0 _ [] _ 0 0 (q_kc (t, r, m, z, N, ext, rx, L) I E 0 [some (.ref 400)] [] [] [])
  refine q_blk 3 [] (c' := q_kc (t, r, m, z, N, ext, rx, L) I E 3 [some (.ref 400)] [.int ((I 457) 9)] [] []) ok_X12_workingHalf rfl q_cn ?_
  cases hf
  exact q_kri ok_X12_workingHalf rfl rfl rfl (Nat.le_of_ble_eq_true rfl) (Nat.le_of_ble_eq_true rfl) ⟨rfl, q_hpe (q_fin [] rfl) (q_fin [] rfl)⟩
set_option maxHeartbeats 4000000 in
theorem ct_X12_usedPlaces_400 {g : q_G} {t : Nat} {r : Nat} {m : Nat} {z : Nat} {N : Nat} {ext : Nat → q_Sh} {rx : Nat → Nat → Option Nat} {L : Nat → Nat → Int64} {d : Nat} (hd : 1 ≤ d)  {I : Nat → Nat → Int32} {E : Nat → Nat → Option Nat} {r0 : Int32} (hf : f_X12_usedPlaces (I 457) = some r0) : q_Ct g m_X12_usedPlaces d 0 0 [] [.ref 400] (q_hp (t, r, m, z, N, ext, rx, L) I E) (fun o h' => o = .inl (some (.int r0)) ∧ h' = q_hp (t, r, m, z, N, ext, rx, L) (q_ws I []) (q_ws E [])) := by
  rw [f_X12_usedPlaces] at hf
  refine q_Ct_of ok_X12_usedPlaces (Nat.le_of_ble_eq_true rfl) ?_ _ rfl rfl
  change q_J g m_X12_usedPlaces d 0 0 _ [] _ 0 0 (q_kc (t, r, m, z, N, ext, rx, L) I E 0 [some (.ref 400)] [] [] [])
  refine q_blk 3 [] (c' := q_kc (t, r, m, z, N, ext, rx, L) I E 3 [some (.ref 400)] [.int ((I 457) 8)] [] []) ok_X12_usedPlaces rfl q_cn ?_
  cases hf
  exact q_kri ok_X12_usedPlaces rfl rfl rfl (Nat.le_of_ble_eq_true rfl) (Nat.le_of_ble_eq_true rfl) ⟨rfl, q_hpe (q_fin [] rfl) (q_fin [] rfl)⟩
set_option maxHeartbeats 4000000 in
theorem ct_X5_at_465 {g : q_G} {t : Nat} {r : Nat} {m : Nat} {z : Nat} {N : Nat} {ext : Nat → q_Sh} {rx : Nat → Nat → Option Nat} {L : Nat → Nat → Int64} {d : Nat} (hd : 1 ≤ d)  {I : Nat → Nat → Int32} {E : Nat → Nat → Option Nat} {x1 : Int32} {r0 : Int32} (hf : f_X5_at (I 465) (I 466) x1 = some r0) : q_Ct g m_X5_at d 0 0 [] [.ref 465, .int x1] (q_hp (t, r, m, z, N, ext, rx, L) I E) (fun o h' => o = .inl (some (.int r0)) ∧ h' = q_hp (t, r, m, z, N, ext, rx, L) (q_ws I []) (q_ws E [])) := by
  rw [f_X5_at] at hf
  refine q_Ct_of ok_X5_at (Nat.le_of_ble_eq_true rfl) ?_ _ rfl rfl
  change q_J g m_X5_at d 0 0 _ [] _ 0 0 (q_kc (t, r, m, z, N, ext, rx, L) I E 0 [some (.ref 465), some (.int x1)] [] [] [])
  refine q_blf 1 [] (a := q_kc (t, r, m, z, N, ext, rx, L) I E 14 [some (.ref 465), some (.int x1)] [] [] []) (b := q_kc (t, r, m, z, N, ext, rx, L) I E 2 [some (.ref 465), some (.int x1)] [] [] []) (P := x1 < 0) ok_X5_at rfl q_cn (fun h1 => ?_) (fun h1 => ?_)
  · have hf := q_ip h1 hf
    refine q_blk 1 [] (c' := q_kc (t, r, m, z, N, ext, rx, L) I E 15 [some (.ref 465), some (.int x1)] [.int (-1 : Int32)] [] []) ok_X5_at rfl q_cn ?_
    cases hf
    exact q_kri ok_X5_at rfl rfl rfl (Nat.le_of_ble_eq_true rfl) (Nat.le_of_ble_eq_true rfl) ⟨rfl, q_hpe (q_fin [] rfl) (q_fin [] rfl)⟩
  · have hf := q_in h1 hf
    refine q_blf 3 [] (a := q_kc (t, r, m, z, N, ext, rx, L) I E 14 [some (.ref 465), some (.int x1)] [] [] []) (b := q_kc (t, r, m, z, N, ext, rx, L) I E 6 [some (.ref 465), some (.int x1)] [] [] []) (P := ((I 465) 1) ≤ x1) ok_X5_at rfl q_cn (fun h2 => ?_) (fun h2 => ?_)
    · have hf := q_ip h2 hf
      refine q_blk 1 [] (c' := q_kc (t, r, m, z, N, ext, rx, L) I E 15 [some (.ref 465), some (.int x1)] [.int (-1 : Int32)] [] []) ok_X5_at rfl q_cn ?_
      cases hf
      exact q_kri ok_X5_at rfl rfl rfl (Nat.le_of_ble_eq_true rfl) (Nat.le_of_ble_eq_true rfl) ⟨rfl, q_hpe (q_fin [] rfl) (q_fin [] rfl)⟩
    · have hf := q_in h2 hf
      refine q_blf 2 [] (a := q_kc (t, r, m, z, N, ext, rx, L) I E 14 [some (.ref 465), some (.int x1)] [] [] []) (b := q_kc (t, r, m, z, N, ext, rx, L) I E 9 [some (.ref 465), some (.int x1)] [] [] []) (P := (64 : Int32) ≤ x1) ok_X5_at rfl q_cn (fun h3 => ?_) (fun h3 => ?_)
      · have hf := q_ip h3 hf
        refine q_blk 1 [] (c' := q_kc (t, r, m, z, N, ext, rx, L) I E 15 [some (.ref 465), some (.int x1)] [.int (-1 : Int32)] [] []) ok_X5_at rfl q_cn ?_
        cases hf
        exact q_kri ok_X5_at rfl rfl rfl (Nat.le_of_ble_eq_true rfl) (Nat.le_of_ble_eq_true rfl) ⟨rfl, q_hpe (q_fin [] rfl) (q_fin [] rfl)⟩
      · have hf := q_in h3 hf
        obtain ⟨j4, hj4, hf⟩ := q_bd hf
        refine q_blk 5 [j4] (c' := q_kc (t, r, m, z, N, ext, rx, L) I E 15 [some (.ref 465), some (.int x1)] [.int ((I 466) j4)] [] []) ok_X5_at rfl (q_cc hj4 q_cn) ?_
        cases hf
        exact q_kri ok_X5_at rfl rfl rfl (Nat.le_of_ble_eq_true rfl) (Nat.le_of_ble_eq_true rfl) ⟨rfl, q_hpe (q_fin [] rfl) (q_fin [] rfl)⟩
set_option maxHeartbeats 4000000 in
theorem lp_X5_usedCount_L4_465 {g : q_G} {d mc ms : Nat} {h0 : q_H} {Q : (Option Value ⊕ String) → q_H → Prop} {k n : Nat} {t : Nat} {r : Nat} {m : Nat} {z : Nat} {N : Nat} {ext : Nat → q_Sh} {rx : Nat → Nat → Option Nat} {L : Nat → Nat → Int64} (hd : 2 ≤ d) (hk : k ≤ mc) (hn : n ≤ ms)  : ∀ (fu : Nat) {I : Nat → Nat → Int32} {E : Nat → Nat → Option Nat} {v1 : Int32} {v2 : Int32} {r0 : Int32} (hf : f_X5_usedCount_L4 (I 465) (I 466) fu v1 v2 = some r0) (hK0 : q_J g m_X5_usedCount d mc ms h0 [] Q k n (q_kc (t, r, m, z, N, ext, rx, L) I E 16 [none, some (.int r0), none] [] [] [])), q_J g m_X5_usedCount d mc ms h0 [] Q k n (4, [some (.ref 465), some (.int v1), some (.int v2)], [], q_hp (t, r, m, z, N, ext, rx, L) I E) := by
  intro fu
  induction fu with
  | zero =>
    intro I E v1 v2 r0 hf hK0
    rw [f_X5_usedCount_L4] at hf
    cases hf
  | succ fu ih =>
    intro I E v1 v2 r0 hf hK0
    rw [f_X5_usedCount_L4] at hf
    change q_J g m_X5_usedCount d mc ms h0 [] Q k n (q_kc (t, r, m, z, N, ext, rx, L) I E 4 [some (.ref 465), some (.int v1), some (.int v2)] [] [] [])
    refine q_blf 3 [] (a := q_kc (t, r, m, z, N, ext, rx, L) I E 16 [some (.ref 465), some (.int v1), some (.int v2)] [] [] []) (b := q_kc (t, r, m, z, N, ext, rx, L) I E 8 [some (.ref 465), some (.int v1), some (.int v2)] [] [] []) (P := ((I 465) 1) ≤ v2) ok_X5_usedCount rfl q_cn (fun h1 => ?_) (fun h1 => ?_)
    · have hf := q_ip h1 hf
      refine q_less (ls' := [none, some (.int v1), none]) (q_sb1 (q_sb2 (q_sb1 q_sb0))) ?_
      cases hf
      exact q_Jpad [] [] rfl rfl hK0
    · have hf := q_in h1 hf
      refine q_blk 2 [] (c' := q_kc (t, r, m, z, N, ext, rx, L) I E 10 [some (.ref 465), some (.int v1), some (.int v2)] [.int v2, .ref 465] [] []) ok_X5_usedCount rfl q_cn ?_
      obtain ⟨r2, hr2, hf⟩ := q_bd hf
      refine q_kV (M2 := m_X5_at) (As := [.int v2]) (b := 465) (v2 := some (.int r2)) ok_X5_usedCount ok_X5_at cv_X5_at (ct_X5_at_465 (d := 1) (Nat.le_refl _) hr2) rfl rfl (Or.inl rfl) rfl rfl rfl rfl (Nat.le_trans (Nat.le_of_ble_eq_true rfl) hd) hk hn (Nat.le_of_ble_eq_true rfl) (fun x hx => absurd hx List.not_mem_nil) (q_nmL0 _) (q_nmS0 _) rfl (pos' := 11) (st' := [.int r2]) (lI' := []) (lE' := []) rfl rfl rfl rfl ?_
      refine q_blf 1 [] (a := q_kc (t, r, m, z, N, ext, rx, L) I E 14 [some (.ref 465), some (.int v1), some (.int v2)] [] [] []) (b := q_kc (t, r, m, z, N, ext, rx, L) I E 13 [some (.ref 465), some (.int v1), some (.int v2)] [] [] []) (P := r2 = (-1 : Int32)) ok_X5_usedCount rfl q_cn (fun h3 => ?_) (fun h3 => ?_)
      · have hf := q_ip h3 hf
        refine q_blk 2 [] (c' := q_kc (t, r, m, z, N, ext, rx, L) I E 4 [some (.ref 465), some (.int v1), some (.int (v2 + 1))] [] [] []) ok_X5_usedCount rfl q_cn ?_
        exact ih (I := q_ws I []) (E := q_ws E []) hf (q_Jmrg rfl rfl hK0)
      · have hf := q_in h3 hf
        refine q_blk 3 [] (c' := q_kc (t, r, m, z, N, ext, rx, L) I E 4 [some (.ref 465), some (.int (v1 + 1)), some (.int (v2 + 1))] [] [] []) ok_X5_usedCount rfl q_cn ?_
        exact ih (I := q_ws I []) (E := q_ws E []) hf (q_Jmrg rfl rfl hK0)
set_option maxHeartbeats 4000000 in
theorem ct_X5_usedCount_465 {g : q_G} {t : Nat} {r : Nat} {m : Nat} {z : Nat} {N : Nat} {ext : Nat → q_Sh} {rx : Nat → Nat → Option Nat} {L : Nat → Nat → Int64} {d : Nat} (hd : 2 ≤ d)  {I : Nat → Nat → Int32} {E : Nat → Nat → Option Nat} {r0 : Int32} (hf : f_X5_usedCount (I 465) (I 466) = some r0) : q_Ct g m_X5_usedCount d 0 0 [] [.ref 465] (q_hp (t, r, m, z, N, ext, rx, L) I E) (fun o h' => o = .inl (some (.int r0)) ∧ h' = q_hp (t, r, m, z, N, ext, rx, L) (q_ws I []) (q_ws E [])) := by
  rw [f_X5_usedCount] at hf
  refine q_Ct_of ok_X5_usedCount (Nat.le_of_ble_eq_true rfl) ?_ _ rfl rfl
  change q_J g m_X5_usedCount d 0 0 _ [] _ 0 0 (q_kc (t, r, m, z, N, ext, rx, L) I E 0 [some (.ref 465), none, none] [] [] [])
  refine q_blk 4 [] (c' := q_kc (t, r, m, z, N, ext, rx, L) I E 4 [some (.ref 465), some (.int (0 : Int32)), some (.int (0 : Int32))] [] [] []) ok_X5_usedCount rfl q_cn ?_
  obtain ⟨r4, hr4, hf⟩ := q_bd hf
  refine lp_X5_usedCount_L4_465 (I := q_ws I []) (E := q_ws E []) hd (Nat.le_of_ble_eq_true rfl) (Nat.le_of_ble_eq_true rfl) 4096 hr4 ?_
  refine q_Jmrg (lI' := []) (lE' := []) rfl rfl ?_
  refine q_blk 1 [] (c' := q_kc (t, r, m, z, N, ext, rx, L) I E 17 [none, some (.int r4), none] [.int r4] [] []) ok_X5_usedCount rfl q_cn ?_
  cases hf
  exact q_kri ok_X5_usedCount rfl rfl rfl (Nat.le_of_ble_eq_true rfl) (Nat.le_of_ble_eq_true rfl) ⟨rfl, q_hpe (q_fin [] rfl) (q_fin [] rfl)⟩
set_option maxHeartbeats 4000000 in
theorem ct_X12_usedInLoft_400 {g : q_G} {t : Nat} {r : Nat} {m : Nat} {z : Nat} {N : Nat} {ext : Nat → q_Sh} {rx : Nat → Nat → Option Nat} {L : Nat → Nat → Int64} {d : Nat} (hd : 3 ≤ d)  {I : Nat → Nat → Int32} {E : Nat → Nat → Option Nat} {r0 : Int32} (hf : f_X12_usedInLoft (I 465) (I 466) = some r0) : q_Ct g m_X12_usedInLoft d 0 0 [] [.ref 400] (q_hp (t, r, m, z, N, ext, rx, L) I E) (fun o h' => o = .inl (some (.int r0)) ∧ h' = q_hp (t, r, m, z, N, ext, rx, L) (q_ws I []) (q_ws E [])) := by
  rw [f_X12_usedInLoft] at hf
  refine q_Ct_of ok_X12_usedInLoft (Nat.le_of_ble_eq_true rfl) ?_ _ rfl rfl
  change q_J g m_X12_usedInLoft d 0 0 _ [] _ 0 0 (q_kc (t, r, m, z, N, ext, rx, L) I E 0 [some (.ref 400)] [] [] [])
  refine q_blk 3 [] (c' := q_kc (t, r, m, z, N, ext, rx, L) I E 3 [some (.ref 400)] [.ref 465] [] []) ok_X12_usedInLoft rfl q_cn ?_
  obtain ⟨r1, hr1, hf⟩ := q_bd hf
  refine q_kV (M2 := m_X5_usedCount) (As := []) (b := 465) (v2 := some (.int r1)) ok_X12_usedInLoft ok_X5_usedCount cv_X5_usedCount (ct_X5_usedCount_465 (d := 2) (Nat.le_refl _) hr1) rfl rfl (Or.inl rfl) rfl rfl rfl rfl (Nat.le_trans (Nat.le_of_ble_eq_true rfl) hd) (Nat.le_of_ble_eq_true rfl) (Nat.le_of_ble_eq_true rfl) (Nat.le_of_ble_eq_true rfl) (fun x hx => absurd hx List.not_mem_nil) (q_nmL0 _) (q_nmS0 _) rfl (pos' := 4) (st' := [.int r1]) (lI' := []) (lE' := []) rfl rfl rfl rfl ?_
  cases hf
  exact q_kri ok_X12_usedInLoft rfl rfl rfl (Nat.le_of_ble_eq_true rfl) (Nat.le_of_ble_eq_true rfl) ⟨rfl, q_hpe (q_fin [] rfl) (q_fin [] rfl)⟩
set_option maxHeartbeats 4000000 in
theorem lp_X5_widestGap_L6_465 {g : q_G} {d mc ms : Nat} {h0 : q_H} {Q : (Option Value ⊕ String) → q_H → Prop} {k n : Nat} {t : Nat} {r : Nat} {m : Nat} {z : Nat} {N : Nat} {ext : Nat → q_Sh} {rx : Nat → Nat → Option Nat} {L : Nat → Nat → Int64} (hd : 2 ≤ d) (hk : k ≤ mc) (hn : n ≤ ms)  : ∀ (fu : Nat) {I : Nat → Nat → Int32} {E : Nat → Nat → Option Nat} {v1 : Int32} {v2 : Int32} {v3 : Int32} {r0 : Int32} (hf : f_X5_widestGap_L6 (I 465) (I 466) fu v1 v2 v3 = some r0) (hK0 : q_J g m_X5_widestGap d mc ms h0 [] Q k n (q_kc (t, r, m, z, N, ext, rx, L) I E 27 [none, some (.int r0), none, none] [] [] [])), q_J g m_X5_widestGap d mc ms h0 [] Q k n (6, [some (.ref 465), some (.int v1), some (.int v2), some (.int v3)], [], q_hp (t, r, m, z, N, ext, rx, L) I E) := by
  intro fu
  induction fu with
  | zero =>
    intro I E v1 v2 v3 r0 hf hK0
    rw [f_X5_widestGap_L6] at hf
    cases hf
  | succ fu ih =>
    intro I E v1 v2 v3 r0 hf hK0
    rw [f_X5_widestGap_L6] at hf
    change q_J g m_X5_widestGap d mc ms h0 [] Q k n (q_kc (t, r, m, z, N, ext, rx, L) I E 6 [some (.ref 465), some (.int v1), some (.int v2), some (.int v3)] [] [] [])
    refine q_blf 3 [] (a := q_kc (t, r, m, z, N, ext, rx, L) I E 27 [some (.ref 465), some (.int v1), some (.int v2), some (.int v3)] [] [] []) (b := q_kc (t, r, m, z, N, ext, rx, L) I E 10 [some (.ref 465), some (.int v1), some (.int v2), some (.int v3)] [] [] []) (P := ((I 465) 1) ≤ v3) ok_X5_widestGap rfl q_cn (fun h1 => ?_) (fun h1 => ?_)
    · have hf := q_ip h1 hf
      refine q_less (ls' := [none, some (.int v1), none, none]) (q_sb1 (q_sb2 (q_sb1 (q_sb1 q_sb0)))) ?_
      cases hf
      exact q_Jpad [] [] rfl rfl hK0
    · have hf := q_in h1 hf
      refine q_blk 2 [] (c' := q_kc (t, r, m, z, N, ext, rx, L) I E 12 [some (.ref 465), some (.int v1), some (.int v2), some (.int v3)] [.int v3, .ref 465] [] []) ok_X5_widestGap rfl q_cn ?_
      obtain ⟨r2, hr2, hf⟩ := q_bd hf
      refine q_kV (M2 := m_X5_at) (As := [.int v3]) (b := 465) (v2 := some (.int r2)) ok_X5_widestGap ok_X5_at cv_X5_at (ct_X5_at_465 (d := 1) (Nat.le_refl _) hr2) rfl rfl (Or.inl rfl) rfl rfl rfl rfl (Nat.le_trans (Nat.le_of_ble_eq_true rfl) hd) hk hn (Nat.le_of_ble_eq_true rfl) (fun x hx => absurd hx List.not_mem_nil) (q_nmL0 _) (q_nmS0 _) rfl (pos' := 13) (st' := [.int r2]) (lI' := []) (lE' := []) rfl rfl rfl rfl ?_
      refine q_blf 1 [] (a := q_kc (t, r, m, z, N, ext, rx, L) I E 19 [some (.ref 465), some (.int v1), some (.int v2), some (.int v3)] [] [] []) (b := q_kc (t, r, m, z, N, ext, rx, L) I E 15 [some (.ref 465), some (.int v1), some (.int v2), some (.int v3)] [] [] []) (P := ¬ r2 = (-1 : Int32)) ok_X5_widestGap rfl q_cn (fun h3 => ?_) (fun h3 => ?_)
      · have hf := q_ip h3 hf
        refine q_blk 4 [] (c' := q_kc (t, r, m, z, N, ext, rx, L) I E 23 [some (.ref 465), some (.int v1), some (.int (0 : Int32)), some (.int v3)] [.int (0 : Int32), .int v1] [] []) ok_X5_widestGap rfl q_cn ?_
        refine q_kmx (pos' := 24) ok_X5_widestGap rfl rfl (Nat.le_trans (Nat.le_of_ble_eq_true rfl) hd) (Nat.le_of_ble_eq_true rfl) hk hn rfl ?_
        refine q_blk 3 [] (c' := q_kc (t, r, m, z, N, ext, rx, L) I E 6 [some (.ref 465), some (.int (q_max v1 (0 : Int32))), some (.int (0 : Int32)), some (.int (v3 + 1))] [] [] []) ok_X5_widestGap rfl q_cn ?_
        exact ih (I := q_ws I []) (E := q_ws E []) hf (q_Jmrg rfl rfl hK0)
      · have hf := q_in h3 hf
        refine q_blk 7 [] (c' := q_kc (t, r, m, z, N, ext, rx, L) I E 23 [some (.ref 465), some (.int v1), some (.int (v2 + (1 : Int32))), some (.int v3)] [.int (v2 + (1 : Int32)), .int v1] [] []) ok_X5_widestGap rfl q_cn ?_
        refine q_kmx (pos' := 24) ok_X5_widestGap rfl rfl (Nat.le_trans (Nat.le_of_ble_eq_true rfl) hd) (Nat.le_of_ble_eq_true rfl) hk hn rfl ?_
        refine q_blk 3 [] (c' := q_kc (t, r, m, z, N, ext, rx, L) I E 6 [some (.ref 465), some (.int (q_max v1 (v2 + (1 : Int32)))), some (.int (v2 + (1 : Int32))), some (.int (v3 + 1))] [] [] []) ok_X5_widestGap rfl q_cn ?_
        exact ih (I := q_ws I []) (E := q_ws E []) hf (q_Jmrg rfl rfl hK0)
set_option maxHeartbeats 4000000 in
theorem ct_X5_widestGap_465 {g : q_G} {t : Nat} {r : Nat} {m : Nat} {z : Nat} {N : Nat} {ext : Nat → q_Sh} {rx : Nat → Nat → Option Nat} {L : Nat → Nat → Int64} {d : Nat} (hd : 2 ≤ d)  {I : Nat → Nat → Int32} {E : Nat → Nat → Option Nat} {r0 : Int32} (hf : f_X5_widestGap (I 465) (I 466) = some r0) : q_Ct g m_X5_widestGap d 0 0 [] [.ref 465] (q_hp (t, r, m, z, N, ext, rx, L) I E) (fun o h' => o = .inl (some (.int r0)) ∧ h' = q_hp (t, r, m, z, N, ext, rx, L) (q_ws I []) (q_ws E [])) := by
  rw [f_X5_widestGap] at hf
  refine q_Ct_of ok_X5_widestGap (Nat.le_of_ble_eq_true rfl) ?_ _ rfl rfl
  change q_J g m_X5_widestGap d 0 0 _ [] _ 0 0 (q_kc (t, r, m, z, N, ext, rx, L) I E 0 [some (.ref 465), none, none, none] [] [] [])
  refine q_blk 6 [] (c' := q_kc (t, r, m, z, N, ext, rx, L) I E 6 [some (.ref 465), some (.int (0 : Int32)), some (.int (0 : Int32)), some (.int (0 : Int32))] [] [] []) ok_X5_widestGap rfl q_cn ?_
  obtain ⟨r4, hr4, hf⟩ := q_bd hf
  refine lp_X5_widestGap_L6_465 (I := q_ws I []) (E := q_ws E []) hd (Nat.le_of_ble_eq_true rfl) (Nat.le_of_ble_eq_true rfl) 4096 hr4 ?_
  refine q_Jmrg (lI' := []) (lE' := []) rfl rfl ?_
  refine q_blk 1 [] (c' := q_kc (t, r, m, z, N, ext, rx, L) I E 28 [none, some (.int r4), none, none] [.int r4] [] []) ok_X5_widestGap rfl q_cn ?_
  cases hf
  exact q_kri ok_X5_widestGap rfl rfl rfl (Nat.le_of_ble_eq_true rfl) (Nat.le_of_ble_eq_true rfl) ⟨rfl, q_hpe (q_fin [] rfl) (q_fin [] rfl)⟩
set_option maxHeartbeats 4000000 in
theorem ct_X12_longestGap_400 {g : q_G} {t : Nat} {r : Nat} {m : Nat} {z : Nat} {N : Nat} {ext : Nat → q_Sh} {rx : Nat → Nat → Option Nat} {L : Nat → Nat → Int64} {d : Nat} (hd : 3 ≤ d)  {I : Nat → Nat → Int32} {E : Nat → Nat → Option Nat} {r0 : Int32} (hf : f_X12_longestGap (I 465) (I 466) = some r0) : q_Ct g m_X12_longestGap d 0 0 [] [.ref 400] (q_hp (t, r, m, z, N, ext, rx, L) I E) (fun o h' => o = .inl (some (.int r0)) ∧ h' = q_hp (t, r, m, z, N, ext, rx, L) (q_ws I []) (q_ws E [])) := by
  rw [f_X12_longestGap] at hf
  refine q_Ct_of ok_X12_longestGap (Nat.le_of_ble_eq_true rfl) ?_ _ rfl rfl
  change q_J g m_X12_longestGap d 0 0 _ [] _ 0 0 (q_kc (t, r, m, z, N, ext, rx, L) I E 0 [some (.ref 400)] [] [] [])
  refine q_blk 3 [] (c' := q_kc (t, r, m, z, N, ext, rx, L) I E 3 [some (.ref 400)] [.ref 465] [] []) ok_X12_longestGap rfl q_cn ?_
  obtain ⟨r1, hr1, hf⟩ := q_bd hf
  refine q_kV (M2 := m_X5_widestGap) (As := []) (b := 465) (v2 := some (.int r1)) ok_X12_longestGap ok_X5_widestGap cv_X5_widestGap (ct_X5_widestGap_465 (d := 2) (Nat.le_refl _) hr1) rfl rfl (Or.inl rfl) rfl rfl rfl rfl (Nat.le_trans (Nat.le_of_ble_eq_true rfl) hd) (Nat.le_of_ble_eq_true rfl) (Nat.le_of_ble_eq_true rfl) (Nat.le_of_ble_eq_true rfl) (fun x hx => absurd hx List.not_mem_nil) (q_nmL0 _) (q_nmS0 _) rfl (pos' := 4) (st' := [.int r1]) (lI' := []) (lE' := []) rfl rfl rfl rfl ?_
  cases hf
  exact q_kri ok_X12_longestGap rfl rfl rfl (Nat.le_of_ble_eq_true rfl) (Nat.le_of_ble_eq_true rfl) ⟨rfl, q_hpe (q_fin [] rfl) (q_fin [] rfl)⟩
set_option maxHeartbeats 4000000 in
theorem ct_X2_baleCount_457 {g : q_G} {t : Nat} {r : Nat} {m : Nat} {z : Nat} {N : Nat} {ext : Nat → q_Sh} {rx : Nat → Nat → Option Nat} {L : Nat → Nat → Int64} {d : Nat} (hd : 1 ≤ d)  {I : Nat → Nat → Int32} {E : Nat → Nat → Option Nat} {r0 : Int32} (hf : f_X2_baleCount (I 457) (I 465) = some r0) : q_Ct g m_X2_baleCount d 0 0 [] [.ref 457] (q_hp (t, r, m, z, N, ext, rx, L) I E) (fun o h' => o = .inl (some (.int r0)) ∧ h' = q_hp (t, r, m, z, N, ext, rx, L) (q_ws I []) (q_ws E [])) := by
  rw [f_X2_baleCount] at hf
  refine q_Ct_of ok_X2_baleCount (Nat.le_of_ble_eq_true rfl) ?_ _ rfl rfl
  change q_J g m_X2_baleCount d 0 0 _ [] _ 0 0 (q_kc (t, r, m, z, N, ext, rx, L) I E 0 [some (.ref 457)] [] [] [])
  refine q_blk 6 [] (c' := q_kc (t, r, m, z, N, ext, rx, L) I E 6 [some (.ref 457)] [.int (((I 457) 7) + ((I 465) 2))] [] []) ok_X2_baleCount rfl q_cn ?_
  cases hf
  exact q_kri ok_X2_baleCount rfl rfl rfl (Nat.le_of_ble_eq_true rfl) (Nat.le_of_ble_eq_true rfl) ⟨rfl, q_hpe (q_fin [] rfl) (q_fin [] rfl)⟩
set_option maxHeartbeats 4000000 in
theorem ct_X12_bales_400 {g : q_G} {t : Nat} {r : Nat} {m : Nat} {z : Nat} {N : Nat} {ext : Nat → q_Sh} {rx : Nat → Nat → Option Nat} {L : Nat → Nat → Int64} {d : Nat} (hd : 2 ≤ d)  {I : Nat → Nat → Int32} {E : Nat → Nat → Option Nat} {r0 : Int32} (hf : f_X12_bales (I 457) (I 465) = some r0) : q_Ct g m_X12_bales d 0 0 [] [.ref 400] (q_hp (t, r, m, z, N, ext, rx, L) I E) (fun o h' => o = .inl (some (.int r0)) ∧ h' = q_hp (t, r, m, z, N, ext, rx, L) (q_ws I []) (q_ws E [])) := by
  rw [f_X12_bales] at hf
  refine q_Ct_of ok_X12_bales (Nat.le_of_ble_eq_true rfl) ?_ _ rfl rfl
  change q_J g m_X12_bales d 0 0 _ [] _ 0 0 (q_kc (t, r, m, z, N, ext, rx, L) I E 0 [some (.ref 400)] [] [] [])
  refine q_blk 2 [] (c' := q_kc (t, r, m, z, N, ext, rx, L) I E 2 [some (.ref 400)] [.ref 457] [] []) ok_X12_bales rfl q_cn ?_
  obtain ⟨r1, hr1, hf⟩ := q_bd hf
  refine q_kV (M2 := m_X2_baleCount) (As := []) (b := 457) (v2 := some (.int r1)) ok_X12_bales ok_X2_baleCount cv_X2_baleCount (ct_X2_baleCount_457 (d := 1) (Nat.le_refl _) hr1) rfl rfl (Or.inl rfl) rfl rfl rfl rfl (Nat.le_trans (Nat.le_of_ble_eq_true rfl) hd) (Nat.le_of_ble_eq_true rfl) (Nat.le_of_ble_eq_true rfl) (Nat.le_of_ble_eq_true rfl) (fun x hx => absurd hx List.not_mem_nil) (q_nmL0 _) (q_nmS0 _) rfl (pos' := 3) (st' := [.int r1]) (lI' := []) (lE' := []) rfl rfl rfl rfl ?_
  cases hf
  exact q_kri ok_X12_bales rfl rfl rfl (Nat.le_of_ble_eq_true rfl) (Nat.le_of_ble_eq_true rfl) ⟨rfl, q_hpe (q_fin [] rfl) (q_fin [] rfl)⟩
set_option maxHeartbeats 4000000 in
theorem ct_X12_balesInLoft_400 {g : q_G} {t : Nat} {r : Nat} {m : Nat} {z : Nat} {N : Nat} {ext : Nat → q_Sh} {rx : Nat → Nat → Option Nat} {L : Nat → Nat → Int64} {d : Nat} (hd : 1 ≤ d)  {I : Nat → Nat → Int32} {E : Nat → Nat → Option Nat} {r0 : Int32} (hf : f_X12_balesInLoft (I 465) = some r0) : q_Ct g m_X12_balesInLoft d 0 0 [] [.ref 400] (q_hp (t, r, m, z, N, ext, rx, L) I E) (fun o h' => o = .inl (some (.int r0)) ∧ h' = q_hp (t, r, m, z, N, ext, rx, L) (q_ws I []) (q_ws E [])) := by
  rw [f_X12_balesInLoft] at hf
  refine q_Ct_of ok_X12_balesInLoft (Nat.le_of_ble_eq_true rfl) ?_ _ rfl rfl
  change q_J g m_X12_balesInLoft d 0 0 _ [] _ 0 0 (q_kc (t, r, m, z, N, ext, rx, L) I E 0 [some (.ref 400)] [] [] [])
  refine q_blk 4 [] (c' := q_kc (t, r, m, z, N, ext, rx, L) I E 4 [some (.ref 400)] [.int ((I 465) 2)] [] []) ok_X12_balesInLoft rfl q_cn ?_
  cases hf
  exact q_kri ok_X12_balesInLoft rfl rfl rfl (Nat.le_of_ble_eq_true rfl) (Nat.le_of_ble_eq_true rfl) ⟨rfl, q_hpe (q_fin [] rfl) (q_fin [] rfl)⟩
set_option maxHeartbeats 4000000 in
theorem ct_X4_clear_467 {g : q_G} {t : Nat} {r : Nat} {m : Nat} {z : Nat} {N : Nat} {ext : Nat → q_Sh} {rx : Nat → Nat → Option Nat} {L : Nat → Nat → Int64} {d : Nat} (hd : 2 ≤ d)  {I : Nat → Nat → Int32} {E : Nat → Nat → Option Nat} {r0 : (Nat → Int32) × (Nat → Int32)} (hf : f_X4_clear (I 467) (I 469) = some r0) : q_Ct g m_X4_clear d 0 0 [] [.ref 467] (q_hp (t, r, m, z, N, ext, rx, L) I E) (fun o h' => o = .inl none ∧ h' = q_hp (t, r, m, z, N, ext, rx, L) (q_ws I [(467, r0.1), (469, r0.2)]) (q_ws E [])) := by
  rw [f_X4_clear] at hf
  refine q_Ct_of ok_X4_clear (Nat.le_of_ble_eq_true rfl) ?_ _ rfl rfl
  change q_J g m_X4_clear d 0 0 _ [] _ 0 0 (q_kc (t, r, m, z, N, ext, rx, L) I E 0 [some (.ref 467)] [] [] [])
  refine q_blk 3 [] (c' := q_kc (t, r, m, z, N, ext, rx, L) I E 3 [some (.ref 467)] [.int (-1 : Int32), .ref 469] [] []) ok_X4_clear rfl q_cn ?_
  refine q_kS (M2 := m_J7_fill_53178) (As := [.ref 469, .int (-1 : Int32)]) (v2 := none) ok_X4_clear ok_J7_fill_53178 cs_J7_fill_53178 (ct_fill (d := 1) (a := 469) (L := 128) (Nat.le_refl _) rfl rfl rfl) rfl rfl (Or.inl rfl) (Nat.le_trans (Nat.le_of_ble_eq_true rfl) hd) (Nat.le_of_ble_eq_true rfl) (Nat.le_of_ble_eq_true rfl) (Nat.le_of_ble_eq_true rfl) (fun x hx => absurd hx List.not_mem_nil) (q_nmL0 _) (q_nmS0 _) rfl (pos' := 4) (st' := []) (lI' := [(469, (q_fil 128 (-1 : Int32) (I 469)))]) (lE' := []) rfl rfl rfl rfl ?_
  refine q_blk 3 [] (c' := q_kc (t, r, m, z, N, ext, rx, L) I E 7 [some (.ref 467)] [] [(467, (q_up (I 467) 2 (0 : Int32))), (469, (q_fil 128 (-1 : Int32) (I 469)))] []) ok_X4_clear rfl q_cn ?_
  cases hf
  exact q_krv ok_X4_clear rfl rfl (Nat.le_of_ble_eq_true rfl) (Nat.le_of_ble_eq_true rfl) ⟨rfl, q_hpe (q_fin [467, 469] rfl) (q_fin [] rfl)⟩
set_option maxHeartbeats 4000000 in
theorem ct_X2_held_457 {g : q_G} {t : Nat} {r : Nat} {m : Nat} {z : Nat} {N : Nat} {ext : Nat → q_Sh} {rx : Nat → Nat → Option Nat} {L : Nat → Nat → Int64} {d : Nat} (hd : 1 ≤ d)  {I : Nat → Nat → Int32} {E : Nat → Nat → Option Nat} {x1 : Int32} {r0 : Int32} (hf : f_X2_held (I 470) x1 = some r0) : q_Ct g m_X2_held d 0 0 [] [.ref 457, .int x1] (q_hp (t, r, m, z, N, ext, rx, L) I E) (fun o h' => o = .inl (some (.int r0)) ∧ h' = q_hp (t, r, m, z, N, ext, rx, L) (q_ws I []) (q_ws E [])) := by
  rw [f_X2_held] at hf
  refine q_Ct_of ok_X2_held (Nat.le_of_ble_eq_true rfl) ?_ _ rfl rfl
  change q_J g m_X2_held d 0 0 _ [] _ 0 0 (q_kc (t, r, m, z, N, ext, rx, L) I E 0 [some (.ref 457), some (.int x1)] [] [] [])
  refine q_blf 1 [] (a := q_kc (t, r, m, z, N, ext, rx, L) I E 10 [some (.ref 457), some (.int x1)] [] [] []) (b := q_kc (t, r, m, z, N, ext, rx, L) I E 2 [some (.ref 457), some (.int x1)] [] [] []) (P := x1 < 0) ok_X2_held rfl q_cn (fun h1 => ?_) (fun h1 => ?_)
  · have hf := q_ip h1 hf
    refine q_blk 1 [] (c' := q_kc (t, r, m, z, N, ext, rx, L) I E 11 [some (.ref 457), some (.int x1)] [.int (-1 : Int32)] [] []) ok_X2_held rfl q_cn ?_
    cases hf
    exact q_kri ok_X2_held rfl rfl rfl (Nat.le_of_ble_eq_true rfl) (Nat.le_of_ble_eq_true rfl) ⟨rfl, q_hpe (q_fin [] rfl) (q_fin [] rfl)⟩
  · have hf := q_in h1 hf
    refine q_blf 2 [] (a := q_kc (t, r, m, z, N, ext, rx, L) I E 10 [some (.ref 457), some (.int x1)] [] [] []) (b := q_kc (t, r, m, z, N, ext, rx, L) I E 5 [some (.ref 457), some (.int x1)] [] [] []) (P := (6 : Int32) ≤ x1) ok_X2_held rfl q_cn (fun h2 => ?_) (fun h2 => ?_)
    · have hf := q_ip h2 hf
      refine q_blk 1 [] (c' := q_kc (t, r, m, z, N, ext, rx, L) I E 11 [some (.ref 457), some (.int x1)] [.int (-1 : Int32)] [] []) ok_X2_held rfl q_cn ?_
      cases hf
      exact q_kri ok_X2_held rfl rfl rfl (Nat.le_of_ble_eq_true rfl) (Nat.le_of_ble_eq_true rfl) ⟨rfl, q_hpe (q_fin [] rfl) (q_fin [] rfl)⟩
    · have hf := q_in h2 hf
      obtain ⟨j3, hj3, hf⟩ := q_bd hf
      refine q_blk 5 [j3] (c' := q_kc (t, r, m, z, N, ext, rx, L) I E 11 [some (.ref 457), some (.int x1)] [.int ((I 470) j3)] [] []) ok_X2_held rfl (q_cc hj3 q_cn) ?_
      cases hf
      exact q_kri ok_X2_held rfl rfl rfl (Nat.le_of_ble_eq_true rfl) (Nat.le_of_ble_eq_true rfl) ⟨rfl, q_hpe (q_fin [] rfl) (q_fin [] rfl)⟩
set_option maxHeartbeats 4000000 in
theorem ct_X4_add_467 {g : q_G} {t : Nat} {r : Nat} {m : Nat} {z : Nat} {N : Nat} {ext : Nat → q_Sh} {rx : Nat → Nat → Option Nat} {L : Nat → Nat → Int64} {d : Nat} (hd : 1 ≤ d)  {I : Nat → Nat → Int32} {E : Nat → Nat → Option Nat} {x1 : Int32} {x2 : Int32} {r0 : Bool × (Nat → Int32) × (Nat → Int32) × (Nat → Int32)} (hf : f_X4_add (I 467) (I 468) (I 469) x1 x2 = some r0) : q_Ct g m_X4_add d 0 0 [] [.ref 467, .int x1, .int x2] (q_hp (t, r, m, z, N, ext, rx, L) I E) (fun o h' => o = .inl (some (.int (q_bz r0.1))) ∧ h' = q_hp (t, r, m, z, N, ext, rx, L) (q_ws I [(467, r0.2.1), (468, r0.2.2.1), (469, r0.2.2.2)]) (q_ws E [])) := by
  rw [f_X4_add] at hf
  refine q_Ct_of ok_X4_add (Nat.le_of_ble_eq_true rfl) ?_ _ rfl rfl
  change q_J g m_X4_add d 0 0 _ [] _ 0 0 (q_kc (t, r, m, z, N, ext, rx, L) I E 0 [some (.ref 467), some (.int x1), some (.int x2)] [] [] [])
  refine q_blf 1 [] (a := q_kc (t, r, m, z, N, ext, rx, L) I E 15 [some (.ref 467), some (.int x1), some (.int x2)] [] [] []) (b := q_kc (t, r, m, z, N, ext, rx, L) I E 2 [some (.ref 467), some (.int x1), some (.int x2)] [] [] []) (P := x1 < 0) ok_X4_add rfl q_cn (fun h1 => ?_) (fun h1 => ?_)
  · have hf := q_ip h1 hf
    refine q_blk 1 [] (c' := q_kc (t, r, m, z, N, ext, rx, L) I E 16 [some (.ref 467), some (.int x1), some (.int x2)] [.int (0 : Int32)] [] []) ok_X4_add rfl q_cn ?_
    cases hf
    exact q_kri ok_X4_add rfl rfl rfl (Nat.le_of_ble_eq_true rfl) (Nat.le_of_ble_eq_true rfl) ⟨rfl, q_hpe (q_fin [467, 468, 469] rfl) (q_fin [] rfl)⟩
  · have hf := q_in h1 hf
    refine q_blf 2 [] (a := q_kc (t, r, m, z, N, ext, rx, L) I E 15 [some (.ref 467), some (.int x1), some (.int x2)] [] [] []) (b := q_kc (t, r, m, z, N, ext, rx, L) I E 5 [some (.ref 467), some (.int x1), some (.int x2)] [] [] []) (P := (128 : Int32) ≤ x1) ok_X4_add rfl q_cn (fun h2 => ?_) (fun h2 => ?_)
    · have hf := q_ip h2 hf
      refine q_blk 1 [] (c' := q_kc (t, r, m, z, N, ext, rx, L) I E 16 [some (.ref 467), some (.int x1), some (.int x2)] [.int (0 : Int32)] [] []) ok_X4_add rfl q_cn ?_
      cases hf
      exact q_kri ok_X4_add rfl rfl rfl (Nat.le_of_ble_eq_true rfl) (Nat.le_of_ble_eq_true rfl) ⟨rfl, q_hpe (q_fin [467, 468, 469] rfl) (q_fin [] rfl)⟩
    · have hf := q_in h2 hf
      obtain ⟨j3, hj3, hf⟩ := q_bd hf
      refine q_blf 5 [j3] (a := q_kc (t, r, m, z, N, ext, rx, L) I E 15 [some (.ref 467), some (.int x1), some (.int x2)] [] [] []) (b := q_kc (t, r, m, z, N, ext, rx, L) I E 11 [some (.ref 467), some (.int x1), some (.int x2)] [] [] []) (P := ¬ ((I 469) j3) = (-1 : Int32)) ok_X4_add rfl (q_cc hj3 q_cn) (fun h4 => ?_) (fun h4 => ?_)
      · have hf := q_ip h4 hf
        refine q_blk 1 [] (c' := q_kc (t, r, m, z, N, ext, rx, L) I E 16 [some (.ref 467), some (.int x1), some (.int x2)] [.int (0 : Int32)] [] []) ok_X4_add rfl q_cn ?_
        cases hf
        exact q_kri ok_X4_add rfl rfl rfl (Nat.le_of_ble_eq_true rfl) (Nat.le_of_ble_eq_true rfl) ⟨rfl, q_hpe (q_fin [467, 468, 469] rfl) (q_fin [] rfl)⟩
      · have hf := q_in h4 hf
        refine q_blf 3 [] (a := q_kc (t, r, m, z, N, ext, rx, L) I E 17 [some (.ref 467), some (.int x1), some (.int x2)] [] [] []) (b := q_kc (t, r, m, z, N, ext, rx, L) I E 15 [some (.ref 467), some (.int x1), some (.int x2)] [] [] []) (P := ((I 467) 2) < (128 : Int32)) ok_X4_add rfl q_cn (fun h5 => ?_) (fun h5 => ?_)
        · have hf := q_ip h5 hf
          obtain ⟨j6, hj6, hf⟩ := q_bd hf
          obtain ⟨j7, hj7, hf⟩ := q_bd hf
          refine q_blk 18 [j6, j7] (c' := q_kc (t, r, m, z, N, ext, rx, L) I E 35 [some (.ref 467), some (.int x1), some (.int x2)] [.int (1 : Int32)] [(467, (q_up (I 467) 2 (((I 467) 2) + (1 : Int32)))), (468, (q_up (I 468) j7 x1)), (469, (q_up (I 469) j6 x2))] []) ok_X4_add rfl (q_cc hj7 (q_cc hj6 q_cn)) ?_
          cases hf
          exact q_kri ok_X4_add rfl rfl rfl (Nat.le_of_ble_eq_true rfl) (Nat.le_of_ble_eq_true rfl) ⟨rfl, q_hpe (q_fin [467, 468, 469] rfl) (q_fin [] rfl)⟩
        · have hf := q_in h5 hf
          refine q_blk 1 [] (c' := q_kc (t, r, m, z, N, ext, rx, L) I E 16 [some (.ref 467), some (.int x1), some (.int x2)] [.int (0 : Int32)] [] []) ok_X4_add rfl q_cn ?_
          cases hf
          exact q_kri ok_X4_add rfl rfl rfl (Nat.le_of_ble_eq_true rfl) (Nat.le_of_ble_eq_true rfl) ⟨rfl, q_hpe (q_fin [467, 468, 469] rfl) (q_fin [] rfl)⟩
set_option maxHeartbeats 4000000 in
theorem ct_X4_length_467 {g : q_G} {t : Nat} {r : Nat} {m : Nat} {z : Nat} {N : Nat} {ext : Nat → q_Sh} {rx : Nat → Nat → Option Nat} {L : Nat → Nat → Int64} {d : Nat} (hd : 1 ≤ d)  {I : Nat → Nat → Int32} {E : Nat → Nat → Option Nat} {r0 : Int32} (hf : f_X4_length (I 467) = some r0) : q_Ct g m_X4_length d 0 0 [] [.ref 467] (q_hp (t, r, m, z, N, ext, rx, L) I E) (fun o h' => o = .inl (some (.int r0)) ∧ h' = q_hp (t, r, m, z, N, ext, rx, L) (q_ws I []) (q_ws E [])) := by
  rw [f_X4_length] at hf
  refine q_Ct_of ok_X4_length (Nat.le_of_ble_eq_true rfl) ?_ _ rfl rfl
  change q_J g m_X4_length d 0 0 _ [] _ 0 0 (q_kc (t, r, m, z, N, ext, rx, L) I E 0 [some (.ref 467)] [] [] [])
  refine q_blk 2 [] (c' := q_kc (t, r, m, z, N, ext, rx, L) I E 2 [some (.ref 467)] [.int ((I 467) 2)] [] []) ok_X4_length rfl q_cn ?_
  cases hf
  exact q_kri ok_X4_length rfl rfl rfl (Nat.le_of_ble_eq_true rfl) (Nat.le_of_ble_eq_true rfl) ⟨rfl, q_hpe (q_fin [] rfl) (q_fin [] rfl)⟩
set_option maxHeartbeats 4000000 in
theorem ct_X4_at_467 {g : q_G} {t : Nat} {r : Nat} {m : Nat} {z : Nat} {N : Nat} {ext : Nat → q_Sh} {rx : Nat → Nat → Option Nat} {L : Nat → Nat → Int64} {d : Nat} (hd : 1 ≤ d)  {I : Nat → Nat → Int32} {E : Nat → Nat → Option Nat} {x1 : Int32} {r0 : Int32} (hf : f_X4_at (I 467) (I 468) x1 = some r0) : q_Ct g m_X4_at d 0 0 [] [.ref 467, .int x1] (q_hp (t, r, m, z, N, ext, rx, L) I E) (fun o h' => o = .inl (some (.int r0)) ∧ h' = q_hp (t, r, m, z, N, ext, rx, L) (q_ws I []) (q_ws E [])) := by
  rw [f_X4_at] at hf
  refine q_Ct_of ok_X4_at (Nat.le_of_ble_eq_true rfl) ?_ _ rfl rfl
  change q_J g m_X4_at d 0 0 _ [] _ 0 0 (q_kc (t, r, m, z, N, ext, rx, L) I E 0 [some (.ref 467), some (.int x1)] [] [] [])
  refine q_blf 1 [] (a := q_kc (t, r, m, z, N, ext, rx, L) I E 14 [some (.ref 467), some (.int x1)] [] [] []) (b := q_kc (t, r, m, z, N, ext, rx, L) I E 2 [some (.ref 467), some (.int x1)] [] [] []) (P := x1 < 0) ok_X4_at rfl q_cn (fun h1 => ?_) (fun h1 => ?_)
  · have hf := q_ip h1 hf
    refine q_blk 1 [] (c' := q_kc (t, r, m, z, N, ext, rx, L) I E 15 [some (.ref 467), some (.int x1)] [.int (-1 : Int32)] [] []) ok_X4_at rfl q_cn ?_
    cases hf
    exact q_kri ok_X4_at rfl rfl rfl (Nat.le_of_ble_eq_true rfl) (Nat.le_of_ble_eq_true rfl) ⟨rfl, q_hpe (q_fin [] rfl) (q_fin [] rfl)⟩
  · have hf := q_in h1 hf
    refine q_blf 3 [] (a := q_kc (t, r, m, z, N, ext, rx, L) I E 14 [some (.ref 467), some (.int x1)] [] [] []) (b := q_kc (t, r, m, z, N, ext, rx, L) I E 6 [some (.ref 467), some (.int x1)] [] [] []) (P := ((I 467) 2) ≤ x1) ok_X4_at rfl q_cn (fun h2 => ?_) (fun h2 => ?_)
    · have hf := q_ip h2 hf
      refine q_blk 1 [] (c' := q_kc (t, r, m, z, N, ext, rx, L) I E 15 [some (.ref 467), some (.int x1)] [.int (-1 : Int32)] [] []) ok_X4_at rfl q_cn ?_
      cases hf
      exact q_kri ok_X4_at rfl rfl rfl (Nat.le_of_ble_eq_true rfl) (Nat.le_of_ble_eq_true rfl) ⟨rfl, q_hpe (q_fin [] rfl) (q_fin [] rfl)⟩
    · have hf := q_in h2 hf
      refine q_blf 2 [] (a := q_kc (t, r, m, z, N, ext, rx, L) I E 14 [some (.ref 467), some (.int x1)] [] [] []) (b := q_kc (t, r, m, z, N, ext, rx, L) I E 9 [some (.ref 467), some (.int x1)] [] [] []) (P := (128 : Int32) ≤ x1) ok_X4_at rfl q_cn (fun h3 => ?_) (fun h3 => ?_)
      · have hf := q_ip h3 hf
        refine q_blk 1 [] (c' := q_kc (t, r, m, z, N, ext, rx, L) I E 15 [some (.ref 467), some (.int x1)] [.int (-1 : Int32)] [] []) ok_X4_at rfl q_cn ?_
        cases hf
        exact q_kri ok_X4_at rfl rfl rfl (Nat.le_of_ble_eq_true rfl) (Nat.le_of_ble_eq_true rfl) ⟨rfl, q_hpe (q_fin [] rfl) (q_fin [] rfl)⟩
      · have hf := q_in h3 hf
        obtain ⟨j4, hj4, hf⟩ := q_bd hf
        refine q_blk 5 [j4] (c' := q_kc (t, r, m, z, N, ext, rx, L) I E 15 [some (.ref 467), some (.int x1)] [.int ((I 468) j4)] [] []) ok_X4_at rfl (q_cc hj4 q_cn) ?_
        cases hf
        exact q_kri ok_X4_at rfl rfl rfl (Nat.le_of_ble_eq_true rfl) (Nat.le_of_ble_eq_true rfl) ⟨rfl, q_hpe (q_fin [] rfl) (q_fin [] rfl)⟩
set_option maxHeartbeats 4000000 in
theorem ct_X1_ropes_458 {g : q_G} {t : Nat} {r : Nat} {m : Nat} {z : Nat} {N : Nat} {ext : Nat → q_Sh} {rx : Nat → Nat → Option Nat} {L : Nat → Nat → Int64} {d : Nat} (hd : 1 ≤ d)  {I : Nat → Nat → Int32} {E : Nat → Nat → Option Nat} {x1 : Int32} {r0 : Int32} (hf : f_X1_ropes (I 463) x1 = some r0) : q_Ct g m_X1_ropes d 0 0 [] [.ref 458, .int x1] (q_hp (t, r, m, z, N, ext, rx, L) I E) (fun o h' => o = .inl (some (.int r0)) ∧ h' = q_hp (t, r, m, z, N, ext, rx, L) (q_ws I []) (q_ws E [])) := by
  rw [f_X1_ropes] at hf
  refine q_Ct_of ok_X1_ropes (Nat.le_of_ble_eq_true rfl) ?_ _ rfl rfl
  change q_J g m_X1_ropes d 0 0 _ [] _ 0 0 (q_kc (t, r, m, z, N, ext, rx, L) I E 0 [some (.ref 458), some (.int x1)] [] [] [])
  refine q_blf 1 [] (a := q_kc (t, r, m, z, N, ext, rx, L) I E 10 [some (.ref 458), some (.int x1)] [] [] []) (b := q_kc (t, r, m, z, N, ext, rx, L) I E 2 [some (.ref 458), some (.int x1)] [] [] []) (P := x1 < 0) ok_X1_ropes rfl q_cn (fun h1 => ?_) (fun h1 => ?_)
  · have hf := q_ip h1 hf
    refine q_blk 1 [] (c' := q_kc (t, r, m, z, N, ext, rx, L) I E 11 [some (.ref 458), some (.int x1)] [.int (0 : Int32)] [] []) ok_X1_ropes rfl q_cn ?_
    cases hf
    exact q_kri ok_X1_ropes rfl rfl rfl (Nat.le_of_ble_eq_true rfl) (Nat.le_of_ble_eq_true rfl) ⟨rfl, q_hpe (q_fin [] rfl) (q_fin [] rfl)⟩
  · have hf := q_in h1 hf
    refine q_blf 2 [] (a := q_kc (t, r, m, z, N, ext, rx, L) I E 10 [some (.ref 458), some (.int x1)] [] [] []) (b := q_kc (t, r, m, z, N, ext, rx, L) I E 5 [some (.ref 458), some (.int x1)] [] [] []) (P := (128 : Int32) ≤ x1) ok_X1_ropes rfl q_cn (fun h2 => ?_) (fun h2 => ?_)
    · have hf := q_ip h2 hf
      refine q_blk 1 [] (c' := q_kc (t, r, m, z, N, ext, rx, L) I E 11 [some (.ref 458), some (.int x1)] [.int (0 : Int32)] [] []) ok_X1_ropes rfl q_cn ?_
      cases hf
      exact q_kri ok_X1_ropes rfl rfl rfl (Nat.le_of_ble_eq_true rfl) (Nat.le_of_ble_eq_true rfl) ⟨rfl, q_hpe (q_fin [] rfl) (q_fin [] rfl)⟩
    · have hf := q_in h2 hf
      obtain ⟨j3, hj3, hf⟩ := q_bd hf
      refine q_blk 5 [j3] (c' := q_kc (t, r, m, z, N, ext, rx, L) I E 11 [some (.ref 458), some (.int x1)] [.int ((I 463) j3)] [] []) ok_X1_ropes rfl (q_cc hj3 q_cn) ?_
      cases hf
      exact q_kri ok_X1_ropes rfl rfl rfl (Nat.le_of_ble_eq_true rfl) (Nat.le_of_ble_eq_true rfl) ⟨rfl, q_hpe (q_fin [] rfl) (q_fin [] rfl)⟩
set_option maxHeartbeats 4000000 in
theorem ct_X1_hasRope_458 {g : q_G} {t : Nat} {r : Nat} {m : Nat} {z : Nat} {N : Nat} {ext : Nat → q_Sh} {rx : Nat → Nat → Option Nat} {L : Nat → Nat → Int64} {d : Nat} (hd : 1 ≤ d)  {I : Nat → Nat → Int32} {E : Nat → Nat → Option Nat} {x1 : Int32} {x2 : Int32} {r0 : Bool} (hf : f_X1_hasRope (I 463) x1 x2 = some r0) : q_Ct g m_X1_hasRope d 0 0 [] [.ref 458, .int x1, .int x2] (q_hp (t, r, m, z, N, ext, rx, L) I E) (fun o h' => o = .inl (some (.int (q_bz r0))) ∧ h' = q_hp (t, r, m, z, N, ext, rx, L) (q_ws I []) (q_ws E [])) := by
  rw [f_X1_hasRope] at hf
  refine q_Ct_of ok_X1_hasRope (Nat.le_of_ble_eq_true rfl) ?_ _ rfl rfl
  change q_J g m_X1_hasRope d 0 0 _ [] _ 0 0 (q_kc (t, r, m, z, N, ext, rx, L) I E 0 [some (.ref 458), some (.int x1), some (.int x2)] [] [] [])
  refine q_blf 1 [] (a := q_kc (t, r, m, z, N, ext, rx, L) I E 18 [some (.ref 458), some (.int x1), some (.int x2)] [] [] []) (b := q_kc (t, r, m, z, N, ext, rx, L) I E 2 [some (.ref 458), some (.int x1), some (.int x2)] [] [] []) (P := x1 < 0) ok_X1_hasRope rfl q_cn (fun h1 => ?_) (fun h1 => ?_)
  · have hf := q_ip h1 hf
    refine q_blk 1 [] (c' := q_kc (t, r, m, z, N, ext, rx, L) I E 19 [some (.ref 458), some (.int x1), some (.int x2)] [.int (0 : Int32)] [] []) ok_X1_hasRope rfl q_cn ?_
    cases hf
    exact q_kri ok_X1_hasRope rfl rfl rfl (Nat.le_of_ble_eq_true rfl) (Nat.le_of_ble_eq_true rfl) ⟨rfl, q_hpe (q_fin [] rfl) (q_fin [] rfl)⟩
  · have hf := q_in h1 hf
    refine q_blf 2 [] (a := q_kc (t, r, m, z, N, ext, rx, L) I E 18 [some (.ref 458), some (.int x1), some (.int x2)] [] [] []) (b := q_kc (t, r, m, z, N, ext, rx, L) I E 5 [some (.ref 458), some (.int x1), some (.int x2)] [] [] []) (P := (128 : Int32) ≤ x1) ok_X1_hasRope rfl q_cn (fun h2 => ?_) (fun h2 => ?_)
    · have hf := q_ip h2 hf
      refine q_blk 1 [] (c' := q_kc (t, r, m, z, N, ext, rx, L) I E 19 [some (.ref 458), some (.int x1), some (.int x2)] [.int (0 : Int32)] [] []) ok_X1_hasRope rfl q_cn ?_
      cases hf
      exact q_kri ok_X1_hasRope rfl rfl rfl (Nat.le_of_ble_eq_true rfl) (Nat.le_of_ble_eq_true rfl) ⟨rfl, q_hpe (q_fin [] rfl) (q_fin [] rfl)⟩
    · have hf := q_in h2 hf
      refine q_blf 1 [] (a := q_kc (t, r, m, z, N, ext, rx, L) I E 18 [some (.ref 458), some (.int x1), some (.int x2)] [] [] []) (b := q_kc (t, r, m, z, N, ext, rx, L) I E 7 [some (.ref 458), some (.int x1), some (.int x2)] [] [] []) (P := x2 < 0) ok_X1_hasRope rfl q_cn (fun h3 => ?_) (fun h3 => ?_)
      · have hf := q_ip h3 hf
        refine q_blk 1 [] (c' := q_kc (t, r, m, z, N, ext, rx, L) I E 19 [some (.ref 458), some (.int x1), some (.int x2)] [.int (0 : Int32)] [] []) ok_X1_hasRope rfl q_cn ?_
        cases hf
        exact q_kri ok_X1_hasRope rfl rfl rfl (Nat.le_of_ble_eq_true rfl) (Nat.le_of_ble_eq_true rfl) ⟨rfl, q_hpe (q_fin [] rfl) (q_fin [] rfl)⟩
      · have hf := q_in h3 hf
        refine q_blf 2 [] (a := q_kc (t, r, m, z, N, ext, rx, L) I E 18 [some (.ref 458), some (.int x1), some (.int x2)] [] [] []) (b := q_kc (t, r, m, z, N, ext, rx, L) I E 10 [some (.ref 458), some (.int x1), some (.int x2)] [] [] []) (P := (3 : Int32) ≤ x2) ok_X1_hasRope rfl q_cn (fun h4 => ?_) (fun h4 => ?_)
        · have hf := q_ip h4 hf
          refine q_blk 1 [] (c' := q_kc (t, r, m, z, N, ext, rx, L) I E 19 [some (.ref 458), some (.int x1), some (.int x2)] [.int (0 : Int32)] [] []) ok_X1_hasRope rfl q_cn ?_
          cases hf
          exact q_kri ok_X1_hasRope rfl rfl rfl (Nat.le_of_ble_eq_true rfl) (Nat.le_of_ble_eq_true rfl) ⟨rfl, q_hpe (q_fin [] rfl) (q_fin [] rfl)⟩
        · have hf := q_in h4 hf
          obtain ⟨j5, hj5, hf⟩ := q_bd hf
          refine q_blf 5 [j5] (a := q_kc (t, r, m, z, N, ext, rx, L) I E 18 [some (.ref 458), some (.int x1), some (.int x2)] [] [] []) (b := q_kc (t, r, m, z, N, ext, rx, L) I E 16 [some (.ref 458), some (.int x1), some (.int x2)] [] [] []) (P := ((I 463) j5) ≤ x2) ok_X1_hasRope rfl (q_cc hj5 q_cn) (fun h6 => ?_) (fun h6 => ?_)
          · have hf := q_ip h6 hf
            refine q_blk 1 [] (c' := q_kc (t, r, m, z, N, ext, rx, L) I E 19 [some (.ref 458), some (.int x1), some (.int x2)] [.int (0 : Int32)] [] []) ok_X1_hasRope rfl q_cn ?_
            cases hf
            exact q_kri ok_X1_hasRope rfl rfl rfl (Nat.le_of_ble_eq_true rfl) (Nat.le_of_ble_eq_true rfl) ⟨rfl, q_hpe (q_fin [] rfl) (q_fin [] rfl)⟩
          · have hf := q_in h6 hf
            refine q_blk 2 [] (c' := q_kc (t, r, m, z, N, ext, rx, L) I E 19 [some (.ref 458), some (.int x1), some (.int x2)] [.int (1 : Int32)] [] []) ok_X1_hasRope rfl q_cn ?_
            cases hf
            exact q_kri ok_X1_hasRope rfl rfl rfl (Nat.le_of_ble_eq_true rfl) (Nat.le_of_ble_eq_true rfl) ⟨rfl, q_hpe (q_fin [] rfl) (q_fin [] rfl)⟩
set_option maxHeartbeats 4000000 in
theorem ct_X1_lead_458 {g : q_G} {t : Nat} {r : Nat} {m : Nat} {z : Nat} {N : Nat} {ext : Nat → q_Sh} {rx : Nat → Nat → Option Nat} {L : Nat → Nat → Int64} {d : Nat} (hd : 2 ≤ d)  {I : Nat → Nat → Int32} {E : Nat → Nat → Option Nat} {x1 : Int32} {x2 : Int32} {r0 : Int32} (hf : f_X1_lead (I 463) (I 464) x1 x2 = some r0) : q_Ct g m_X1_lead d 0 0 [] [.ref 458, .int x1, .int x2] (q_hp (t, r, m, z, N, ext, rx, L) I E) (fun o h' => o = .inl (some (.int r0)) ∧ h' = q_hp (t, r, m, z, N, ext, rx, L) (q_ws I []) (q_ws E [])) := by
  rw [f_X1_lead] at hf
  refine q_Ct_of ok_X1_lead (Nat.le_of_ble_eq_true rfl) ?_ _ rfl rfl
  change q_J g m_X1_lead d 0 0 _ [] _ 0 0 (q_kc (t, r, m, z, N, ext, rx, L) I E 0 [some (.ref 458), some (.int x1), some (.int x2)] [] [] [])
  refine q_blk 3 [] (c' := q_kc (t, r, m, z, N, ext, rx, L) I E 3 [some (.ref 458), some (.int x1), some (.int x2)] [.int x2, .int x1, .ref 458] [] []) ok_X1_lead rfl q_cn ?_
  obtain ⟨r1, hr1, hf⟩ := q_bd hf
  refine q_kV (M2 := m_X1_hasRope) (As := [.int x1, .int x2]) (b := 458) (v2 := some (.int (q_bz r1))) ok_X1_lead ok_X1_hasRope cv_X1_hasRope (ct_X1_hasRope_458 (d := 1) (Nat.le_refl _) hr1) rfl rfl (Or.inl rfl) rfl rfl rfl rfl (Nat.le_trans (Nat.le_of_ble_eq_true rfl) hd) (Nat.le_of_ble_eq_true rfl) (Nat.le_of_ble_eq_true rfl) (Nat.le_of_ble_eq_true rfl) (fun x hx => absurd hx List.not_mem_nil) (q_nmL0 _) (q_nmS0 _) rfl (pos' := 4) (st' := [.int (q_bz r1)]) (lI' := []) (lE' := []) rfl rfl rfl rfl ?_
  refine q_blf 0 [] (a := q_kc (t, r, m, z, N, ext, rx, L) I E 14 [some (.ref 458), some (.int x1), some (.int x2)] [] [] []) (b := q_kc (t, r, m, z, N, ext, rx, L) I E 5 [some (.ref 458), some (.int x1), some (.int x2)] [] [] []) (P := (q_bz r1) = 0) ok_X1_lead rfl q_cn (fun h2 => ?_) (fun h2 => ?_)
  · have hf := q_ip h2 hf
    refine q_blk 1 [] (c' := q_kc (t, r, m, z, N, ext, rx, L) I E 15 [some (.ref 458), some (.int x1), some (.int x2)] [.int (-1 : Int32)] [] []) ok_X1_lead rfl q_cn ?_
    cases hf
    exact q_kri ok_X1_lead rfl rfl rfl (Nat.le_of_ble_eq_true rfl) (Nat.le_of_ble_eq_true rfl) ⟨rfl, q_hpe (q_fin [] rfl) (q_fin [] rfl)⟩
  · have hf := q_in h2 hf
    obtain ⟨j3, hj3, hf⟩ := q_bd hf
    refine q_blk 9 [j3] (c' := q_kc (t, r, m, z, N, ext, rx, L) I E 15 [some (.ref 458), some (.int x1), some (.int x2)] [.int ((I 464) j3)] [] []) ok_X1_lead rfl (q_cc hj3 q_cn) ?_
    cases hf
    exact q_kri ok_X1_lead rfl rfl rfl (Nat.le_of_ble_eq_true rfl) (Nat.le_of_ble_eq_true rfl) ⟨rfl, q_hpe (q_fin [] rfl) (q_fin [] rfl)⟩
set_option maxHeartbeats 4000000 in
theorem ct_X4_ropesTo_467 {g : q_G} {t : Nat} {r : Nat} {m : Nat} {z : Nat} {N : Nat} {ext : Nat → q_Sh} {rx : Nat → Nat → Option Nat} {L : Nat → Nat → Int64} {d : Nat} (hd : 1 ≤ d)  {I : Nat → Nat → Int32} {E : Nat → Nat → Option Nat} {x1 : Int32} {r0 : Int32} (hf : f_X4_ropesTo (I 469) x1 = some r0) : q_Ct g m_X4_ropesTo d 0 0 [] [.ref 467, .int x1] (q_hp (t, r, m, z, N, ext, rx, L) I E) (fun o h' => o = .inl (some (.int r0)) ∧ h' = q_hp (t, r, m, z, N, ext, rx, L) (q_ws I []) (q_ws E [])) := by
  rw [f_X4_ropesTo] at hf
  refine q_Ct_of ok_X4_ropesTo (Nat.le_of_ble_eq_true rfl) ?_ _ rfl rfl
  change q_J g m_X4_ropesTo d 0 0 _ [] _ 0 0 (q_kc (t, r, m, z, N, ext, rx, L) I E 0 [some (.ref 467), some (.int x1)] [] [] [])
  refine q_blf 1 [] (a := q_kc (t, r, m, z, N, ext, rx, L) I E 10 [some (.ref 467), some (.int x1)] [] [] []) (b := q_kc (t, r, m, z, N, ext, rx, L) I E 2 [some (.ref 467), some (.int x1)] [] [] []) (P := x1 < 0) ok_X4_ropesTo rfl q_cn (fun h1 => ?_) (fun h1 => ?_)
  · have hf := q_ip h1 hf
    refine q_blk 1 [] (c' := q_kc (t, r, m, z, N, ext, rx, L) I E 11 [some (.ref 467), some (.int x1)] [.int (-1 : Int32)] [] []) ok_X4_ropesTo rfl q_cn ?_
    cases hf
    exact q_kri ok_X4_ropesTo rfl rfl rfl (Nat.le_of_ble_eq_true rfl) (Nat.le_of_ble_eq_true rfl) ⟨rfl, q_hpe (q_fin [] rfl) (q_fin [] rfl)⟩
  · have hf := q_in h1 hf
    refine q_blf 2 [] (a := q_kc (t, r, m, z, N, ext, rx, L) I E 10 [some (.ref 467), some (.int x1)] [] [] []) (b := q_kc (t, r, m, z, N, ext, rx, L) I E 5 [some (.ref 467), some (.int x1)] [] [] []) (P := (128 : Int32) ≤ x1) ok_X4_ropesTo rfl q_cn (fun h2 => ?_) (fun h2 => ?_)
    · have hf := q_ip h2 hf
      refine q_blk 1 [] (c' := q_kc (t, r, m, z, N, ext, rx, L) I E 11 [some (.ref 467), some (.int x1)] [.int (-1 : Int32)] [] []) ok_X4_ropesTo rfl q_cn ?_
      cases hf
      exact q_kri ok_X4_ropesTo rfl rfl rfl (Nat.le_of_ble_eq_true rfl) (Nat.le_of_ble_eq_true rfl) ⟨rfl, q_hpe (q_fin [] rfl) (q_fin [] rfl)⟩
    · have hf := q_in h2 hf
      obtain ⟨j3, hj3, hf⟩ := q_bd hf
      refine q_blk 5 [j3] (c' := q_kc (t, r, m, z, N, ext, rx, L) I E 11 [some (.ref 467), some (.int x1)] [.int ((I 469) j3)] [] []) ok_X4_ropesTo rfl (q_cc hj3 q_cn) ?_
      cases hf
      exact q_kri ok_X4_ropesTo rfl rfl rfl (Nat.le_of_ble_eq_true rfl) (Nat.le_of_ble_eq_true rfl) ⟨rfl, q_hpe (q_fin [] rfl) (q_fin [] rfl)⟩
set_option maxHeartbeats 4000000 in
theorem lp_X2_followLine_L17_457 {g : q_G} {d mc ms : Nat} {h0 : q_H} {Q : (Option Value ⊕ String) → q_H → Prop} {k n : Nat} {t : Nat} {r : Nat} {m : Nat} {z : Nat} {N : Nat} {ext : Nat → q_Sh} {rx : Nat → Nat → Option Nat} {L : Nat → Nat → Int64} (hd : 3 ≤ d) (hk : k ≤ mc) (hn : n ≤ ms)  {v1 : Int32} {v2 : Int32} : ∀ (fu : Nat) {I : Nat → Nat → Int32} {E : Nat → Nat → Option Nat} {v3 : Int32} {r0 : (Nat → Int32) × (Nat → Int32) × (Nat → Int32)} (hf : f_X2_followLine_L17 (I 463) (I 464) v2 fu (I 467) (I 468) (I 469) v3 = some r0) (hK0 : q_J g m_X2_followLine d mc ms h0 [] Q k n (q_kc (t, r, m, z, N, ext, rx, L) I E 40 [some (.ref 457), some (.int v1), none, none] [] [(467, r0.1), (468, r0.2.1), (469, r0.2.2)] [])), q_J g m_X2_followLine d mc ms h0 [] Q k n (17, [some (.ref 457), some (.int v1), some (.int v2), some (.int v3)], [], q_hp (t, r, m, z, N, ext, rx, L) I E) := by
  intro fu
  induction fu with
  | zero =>
    intro I E v3 r0 hf hK0
    rw [f_X2_followLine_L17] at hf
    cases hf
  | succ fu ih =>
    intro I E v3 r0 hf hK0
    rw [f_X2_followLine_L17] at hf
    change q_J g m_X2_followLine d mc ms h0 [] Q k n (q_kc (t, r, m, z, N, ext, rx, L) I E 17 [some (.ref 457), some (.int v1), some (.int v2), some (.int v3)] [] [] [])
    refine q_blk 4 [] (c' := q_kc (t, r, m, z, N, ext, rx, L) I E 21 [some (.ref 457), some (.int v1), some (.int v2), some (.int v3)] [.int v2, .ref 458, .int v3] [] []) ok_X2_followLine rfl q_cn ?_
    obtain ⟨r1, hr1, hf⟩ := q_bd hf
    refine q_kV (M2 := m_X1_ropes) (As := [.int v2]) (b := 458) (v2 := some (.int r1)) ok_X2_followLine ok_X1_ropes cv_X1_ropes (ct_X1_ropes_458 (d := 1) (Nat.le_refl _) hr1) rfl rfl (Or.inl rfl) rfl rfl rfl rfl (Nat.le_trans (Nat.le_of_ble_eq_true rfl) hd) hk hn (Nat.le_of_ble_eq_true rfl) (fun x hx => absurd hx List.not_mem_nil) (q_nmL0 _) (q_nmS0 _) rfl (pos' := 22) (st' := [.int r1, .int v3]) (lI' := []) (lE' := []) rfl rfl rfl rfl ?_
    refine q_blf 0 [] (a := q_kc (t, r, m, z, N, ext, rx, L) I E 40 [some (.ref 457), some (.int v1), some (.int v2), some (.int v3)] [] [] []) (b := q_kc (t, r, m, z, N, ext, rx, L) I E 23 [some (.ref 457), some (.int v1), some (.int v2), some (.int v3)] [] [] []) (P := r1 ≤ v3) ok_X2_followLine rfl q_cn (fun h2 => ?_) (fun h2 => ?_)
    · have hf := q_ip h2 hf
      refine q_less (ls' := [some (.ref 457), some (.int v1), none, none]) (q_sb2 (q_sb2 (q_sb1 (q_sb1 q_sb0)))) ?_
      cases hf
      exact q_Jpad [467, 468, 469] [] rfl rfl hK0
    · have hf := q_in h2 hf
      refine q_blk 6 [] (c' := q_kc (t, r, m, z, N, ext, rx, L) I E 29 [some (.ref 457), some (.int v1), some (.int v2), some (.int v3)] [.int v3, .int v2, .ref 458, .ref 467] [] []) ok_X2_followLine rfl q_cn ?_
      obtain ⟨r3, hr3, hf⟩ := q_bd hf
      refine q_kV (M2 := m_X1_lead) (As := [.int v2, .int v3]) (b := 458) (v2 := some (.int r3)) ok_X2_followLine ok_X1_lead cv_X1_lead (ct_X1_lead_458 (d := 2) (Nat.le_refl _) hr3) rfl rfl (Or.inl rfl) rfl rfl rfl rfl (Nat.le_trans (Nat.le_of_ble_eq_true rfl) hd) hk hn (Nat.le_of_ble_eq_true rfl) (fun x hx => absurd hx List.not_mem_nil) (q_nmL0 _) (q_nmS0 _) rfl (pos' := 30) (st' := [.int r3, .ref 467]) (lI' := []) (lE' := []) rfl rfl rfl rfl ?_
      refine q_blk 3 [] (c' := q_kc (t, r, m, z, N, ext, rx, L) I E 33 [some (.ref 457), some (.int v1), some (.int v2), some (.int v3)] [.int v2, .ref 467, .int r3, .ref 467] [] []) ok_X2_followLine rfl q_cn ?_
      obtain ⟨r4, hr4, hf⟩ := q_bd hf
      refine q_kV (M2 := m_X4_ropesTo) (As := [.int v2]) (b := 467) (v2 := some (.int r4)) ok_X2_followLine ok_X4_ropesTo cv_X4_ropesTo (ct_X4_ropesTo_467 (d := 1) (Nat.le_refl _) hr4) rfl rfl (Or.inl rfl) rfl rfl rfl rfl (Nat.le_trans (Nat.le_of_ble_eq_true rfl) hd) hk hn (Nat.le_of_ble_eq_true rfl) (fun x hx => absurd hx List.not_mem_nil) (q_nmL0 _) (q_nmS0 _) rfl (pos' := 34) (st' := [.int r4, .int r3, .ref 467]) (lI' := []) (lE' := []) rfl rfl rfl rfl ?_
      refine q_blk 2 [] (c' := q_kc (t, r, m, z, N, ext, rx, L) I E 36 [some (.ref 457), some (.int v1), some (.int v2), some (.int v3)] [.int (r4 + (1 : Int32)), .int r3, .ref 467] [] []) ok_X2_followLine rfl q_cn ?_
      obtain ⟨r5, hr5, hf⟩ := q_bd hf
      refine q_kV (M2 := m_X4_add) (As := [.int r3, .int (r4 + (1 : Int32))]) (b := 467) (v2 := some (.int (q_bz r5.1))) ok_X2_followLine ok_X4_add cv_X4_add (ct_X4_add_467 (d := 1) (Nat.le_refl _) hr5) rfl rfl (Or.inl rfl) rfl rfl rfl rfl (Nat.le_trans (Nat.le_of_ble_eq_true rfl) hd) hk hn (Nat.le_of_ble_eq_true rfl) (fun x hx => absurd hx List.not_mem_nil) (q_nmL0 _) (q_nmS0 _) rfl (pos' := 37) (st' := [.int (q_bz r5.1)]) (lI' := [(467, r5.2.1), (468, r5.2.2.1), (469, r5.2.2.2)]) (lE' := []) rfl rfl rfl rfl ?_
      refine q_blk 3 [] (c' := q_kc (t, r, m, z, N, ext, rx, L) I E 17 [some (.ref 457), some (.int v1), some (.int v2), some (.int (v3 + 1))] [] [(467, r5.2.1), (468, r5.2.2.1), (469, r5.2.2.2)] []) ok_X2_followLine rfl q_cn ?_
      exact ih (I := q_ws I [(467, r5.2.1), (468, r5.2.2.1), (469, r5.2.2.2)]) (E := q_ws E []) hf (q_Jmrg rfl rfl hK0)
set_option maxHeartbeats 4000000 in
theorem lp_X2_followLine_L2_457 {g : q_G} {d mc ms : Nat} {h0 : q_H} {Q : (Option Value ⊕ String) → q_H → Prop} {k n : Nat} {t : Nat} {r : Nat} {m : Nat} {z : Nat} {N : Nat} {ext : Nat → q_Sh} {rx : Nat → Nat → Option Nat} {L : Nat → Nat → Int64} (hd : 3 ≤ d) (hk : k ≤ mc) (hn : n ≤ ms)  : ∀ (fu : Nat) {I : Nat → Nat → Int32} {E : Nat → Nat → Option Nat} {v1 : Int32} {r0 : (Nat → Int32) × (Nat → Int32) × (Nat → Int32)} (hf : f_X2_followLine_L2 (I 463) (I 464) fu (I 467) (I 468) (I 469) v1 = some r0) (hK0 : q_J g m_X2_followLine d mc ms h0 [] Q k n (q_kc (t, r, m, z, N, ext, rx, L) I E 42 [none, none, none, none] [] [(467, r0.1), (468, r0.2.1), (469, r0.2.2)] [])), q_J g m_X2_followLine d mc ms h0 [] Q k n (2, [some (.ref 457), some (.int v1), none, none], [], q_hp (t, r, m, z, N, ext, rx, L) I E) := by
  intro fu
  induction fu with
  | zero =>
    intro I E v1 r0 hf hK0
    rw [f_X2_followLine_L2] at hf
    cases hf
  | succ fu ih =>
    intro I E v1 r0 hf hK0
    rw [f_X2_followLine_L2] at hf
    change q_J g m_X2_followLine d mc ms h0 [] Q k n (q_kc (t, r, m, z, N, ext, rx, L) I E 2 [some (.ref 457), some (.int v1), none, none] [] [] [])
    refine q_blf 2 [] (a := q_kc (t, r, m, z, N, ext, rx, L) I E 42 [some (.ref 457), some (.int v1), none, none] [] [] []) (b := q_kc (t, r, m, z, N, ext, rx, L) I E 5 [some (.ref 457), some (.int v1), none, none] [] [] []) (P := (128 : Int32) ≤ v1) ok_X2_followLine rfl q_cn (fun h6 => ?_) (fun h6 => ?_)
    · have hf := q_ip h6 hf
      refine q_less (ls' := [none, none, none, none]) (q_sb1 (q_sb1 (q_sb1 (q_sb1 q_sb0)))) ?_
      cases hf
      exact q_Jpad [467, 468, 469] [] rfl rfl hK0
    · have hf := q_in h6 hf
      refine q_blk 3 [] (c' := q_kc (t, r, m, z, N, ext, rx, L) I E 8 [some (.ref 457), some (.int v1), none, none] [.ref 467, .int v1] [] []) ok_X2_followLine rfl q_cn ?_
      obtain ⟨r7, hr7, hf⟩ := q_bd hf
      refine q_kV (M2 := m_X4_length) (As := []) (b := 467) (v2 := some (.int r7)) ok_X2_followLine ok_X4_length cv_X4_length (ct_X4_length_467 (d := 1) (Nat.le_refl _) hr7) rfl rfl (Or.inl rfl) rfl rfl rfl rfl (Nat.le_trans (Nat.le_of_ble_eq_true rfl) hd) hk hn (Nat.le_of_ble_eq_true rfl) (fun x hx => absurd hx List.not_mem_nil) (q_nmL0 _) (q_nmS0 _) rfl (pos' := 9) (st' := [.int r7, .int v1]) (lI' := []) (lE' := []) rfl rfl rfl rfl ?_
      refine q_blf 0 [] (a := q_kc (t, r, m, z, N, ext, rx, L) I E 42 [some (.ref 457), some (.int v1), none, none] [] [] []) (b := q_kc (t, r, m, z, N, ext, rx, L) I E 10 [some (.ref 457), some (.int v1), none, none] [] [] []) (P := r7 ≤ v1) ok_X2_followLine rfl q_cn (fun h8 => ?_) (fun h8 => ?_)
      · have hf := q_ip h8 hf
        refine q_less (ls' := [none, none, none, none]) (q_sb1 (q_sb1 (q_sb1 (q_sb1 q_sb0)))) ?_
        cases hf
        exact q_Jpad [467, 468, 469] [] rfl rfl hK0
      · have hf := q_in h8 hf
        refine q_blk 3 [] (c' := q_kc (t, r, m, z, N, ext, rx, L) I E 13 [some (.ref 457), some (.int v1), none, none] [.int v1, .ref 467] [] []) ok_X2_followLine rfl q_cn ?_
        obtain ⟨r9, hr9, hf⟩ := q_bd hf
        refine q_kV (M2 := m_X4_at) (As := [.int v1]) (b := 467) (v2 := some (.int r9)) ok_X2_followLine ok_X4_at cv_X4_at (ct_X4_at_467 (d := 1) (Nat.le_refl _) hr9) rfl rfl (Or.inl rfl) rfl rfl rfl rfl (Nat.le_trans (Nat.le_of_ble_eq_true rfl) hd) hk hn (Nat.le_of_ble_eq_true rfl) (fun x hx => absurd hx List.not_mem_nil) (q_nmL0 _) (q_nmS0 _) rfl (pos' := 14) (st' := [.int r9]) (lI' := []) (lE' := []) rfl rfl rfl rfl ?_
        refine q_blk 3 [] (c' := q_kc (t, r, m, z, N, ext, rx, L) I E 17 [some (.ref 457), some (.int v1), some (.int r9), some (.int (0 : Int32))] [] [] []) ok_X2_followLine rfl q_cn ?_
        obtain ⟨r10, hr10, hf⟩ := q_bd hf
        refine lp_X2_followLine_L17_457 (I := q_ws I []) (E := q_ws E []) hd hk hn 4096 hr10 ?_
        refine q_Jmrg (lI' := [(467, r10.1), (468, r10.2.1), (469, r10.2.2)]) (lE' := []) rfl rfl ?_
        refine q_blk 2 [] (c' := q_kc (t, r, m, z, N, ext, rx, L) I E 2 [some (.ref 457), some (.int (v1 + 1)), none, none] [] [(467, r10.1), (468, r10.2.1), (469, r10.2.2)] []) ok_X2_followLine rfl q_cn ?_
        exact ih (I := q_ws I [(467, r10.1), (468, r10.2.1), (469, r10.2.2)]) (E := q_ws E []) hf (q_Jmrg rfl rfl hK0)
set_option maxHeartbeats 4000000 in
theorem ct_X2_followLine_457 {g : q_G} {t : Nat} {r : Nat} {m : Nat} {z : Nat} {N : Nat} {ext : Nat → q_Sh} {rx : Nat → Nat → Option Nat} {L : Nat → Nat → Int64} {d : Nat} (hd : 3 ≤ d)  {I : Nat → Nat → Int32} {E : Nat → Nat → Option Nat} {r0 : (Nat → Int32) × (Nat → Int32) × (Nat → Int32)} (hf : f_X2_followLine (I 463) (I 464) (I 467) (I 468) (I 469) = some r0) : q_Ct g m_X2_followLine d 0 0 [] [.ref 457] (q_hp (t, r, m, z, N, ext, rx, L) I E) (fun o h' => o = .inl none ∧ h' = q_hp (t, r, m, z, N, ext, rx, L) (q_ws I [(467, r0.1), (468, r0.2.1), (469, r0.2.2)]) (q_ws E [])) := by
  rw [f_X2_followLine] at hf
  refine q_Ct_of ok_X2_followLine (Nat.le_of_ble_eq_true rfl) ?_ _ rfl rfl
  change q_J g m_X2_followLine d 0 0 _ [] _ 0 0 (q_kc (t, r, m, z, N, ext, rx, L) I E 0 [some (.ref 457), none, none, none] [] [] [])
  refine q_blk 2 [] (c' := q_kc (t, r, m, z, N, ext, rx, L) I E 2 [some (.ref 457), some (.int (0 : Int32)), none, none] [] [] []) ok_X2_followLine rfl q_cn ?_
  obtain ⟨r11, hr11, hf⟩ := q_bd hf
  refine lp_X2_followLine_L2_457 (I := q_ws I []) (E := q_ws E []) hd (Nat.le_of_ble_eq_true rfl) (Nat.le_of_ble_eq_true rfl) 4096 hr11 ?_
  refine q_Jmrg (lI' := [(467, r11.1), (468, r11.2.1), (469, r11.2.2)]) (lE' := []) rfl rfl ?_
  cases hf
  exact q_krv ok_X2_followLine rfl rfl (Nat.le_of_ble_eq_true rfl) (Nat.le_of_ble_eq_true rfl) ⟨rfl, q_hpe (q_fin [467, 468, 469] rfl) (q_fin [] rfl)⟩
set_option maxHeartbeats 4000000 in
theorem lp_X2_findReached_L5_457 {g : q_G} {d mc ms : Nat} {h0 : q_H} {Q : (Option Value ⊕ String) → q_H → Prop} {k n : Nat} {t : Nat} {r : Nat} {m : Nat} {z : Nat} {N : Nat} {ext : Nat → q_Sh} {rx : Nat → Nat → Option Nat} {L : Nat → Nat → Int64} (hd : 4 ≤ d) (hk : k ≤ mc) (hn : n ≤ ms)  : ∀ (fu : Nat) {I : Nat → Nat → Int32} {E : Nat → Nat → Option Nat} {v1 : Int32} {r0 : (Nat → Int32) × (Nat → Int32) × (Nat → Int32)} (hf : f_X2_findReached_L5 (I 470) fu (I 467) (I 468) (I 469) v1 = some r0) (hK0 : q_J g m_X2_findReached d mc ms h0 [] Q k n (q_kc (t, r, m, z, N, ext, rx, L) I E 18 [some (.ref 457), none] [] [(467, r0.1), (468, r0.2.1), (469, r0.2.2)] [])), q_J g m_X2_findReached d mc ms h0 [] Q k n (5, [some (.ref 457), some (.int v1)], [], q_hp (t, r, m, z, N, ext, rx, L) I E) := by
  intro fu
  induction fu with
  | zero =>
    intro I E v1 r0 hf hK0
    rw [f_X2_findReached_L5] at hf
    cases hf
  | succ fu ih =>
    intro I E v1 r0 hf hK0
    rw [f_X2_findReached_L5] at hf
    change q_J g m_X2_findReached d mc ms h0 [] Q k n (q_kc (t, r, m, z, N, ext, rx, L) I E 5 [some (.ref 457), some (.int v1)] [] [] [])
    refine q_blf 2 [] (a := q_kc (t, r, m, z, N, ext, rx, L) I E 18 [some (.ref 457), some (.int v1)] [] [] []) (b := q_kc (t, r, m, z, N, ext, rx, L) I E 8 [some (.ref 457), some (.int v1)] [] [] []) (P := (6 : Int32) ≤ v1) ok_X2_findReached rfl q_cn (fun h1 => ?_) (fun h1 => ?_)
    · have hf := q_ip h1 hf
      refine q_less (ls' := [some (.ref 457), none]) (q_sb2 (q_sb1 q_sb0)) ?_
      cases hf
      exact q_Jpad [467, 468, 469] [] rfl rfl hK0
    · have hf := q_in h1 hf
      refine q_blk 4 [] (c' := q_kc (t, r, m, z, N, ext, rx, L) I E 12 [some (.ref 457), some (.int v1)] [.int v1, .ref 457, .ref 467] [] []) ok_X2_findReached rfl q_cn ?_
      obtain ⟨r2, hr2, hf⟩ := q_bd hf
      refine q_kV (M2 := m_X2_held) (As := [.int v1]) (b := 457) (v2 := some (.int r2)) ok_X2_findReached ok_X2_held cv_X2_held (ct_X2_held_457 (d := 1) (Nat.le_refl _) hr2) rfl rfl (Or.inl rfl) rfl rfl rfl rfl (Nat.le_trans (Nat.le_of_ble_eq_true rfl) hd) hk hn (Nat.le_of_ble_eq_true rfl) (fun x hx => absurd hx List.not_mem_nil) (q_nmL0 _) (q_nmS0 _) rfl (pos' := 13) (st' := [.int r2, .ref 467]) (lI' := []) (lE' := []) rfl rfl rfl rfl ?_
      refine q_blk 1 [] (c' := q_kc (t, r, m, z, N, ext, rx, L) I E 14 [some (.ref 457), some (.int v1)] [.int (0 : Int32), .int r2, .ref 467] [] []) ok_X2_findReached rfl q_cn ?_
      obtain ⟨r3, hr3, hf⟩ := q_bd hf
      refine q_kV (M2 := m_X4_add) (As := [.int r2, .int (0 : Int32)]) (b := 467) (v2 := some (.int (q_bz r3.1))) ok_X2_findReached ok_X4_add cv_X4_add (ct_X4_add_467 (d := 1) (Nat.le_refl _) hr3) rfl rfl (Or.inl rfl) rfl rfl rfl rfl (Nat.le_trans (Nat.le_of_ble_eq_true rfl) hd) hk hn (Nat.le_of_ble_eq_true rfl) (fun x hx => absurd hx List.not_mem_nil) (q_nmL0 _) (q_nmS0 _) rfl (pos' := 15) (st' := [.int (q_bz r3.1)]) (lI' := [(467, r3.2.1), (468, r3.2.2.1), (469, r3.2.2.2)]) (lE' := []) rfl rfl rfl rfl ?_
      refine q_blk 3 [] (c' := q_kc (t, r, m, z, N, ext, rx, L) I E 5 [some (.ref 457), some (.int (v1 + 1))] [] [(467, r3.2.1), (468, r3.2.2.1), (469, r3.2.2.2)] []) ok_X2_findReached rfl q_cn ?_
      exact ih (I := q_ws I [(467, r3.2.1), (468, r3.2.2.1), (469, r3.2.2.2)]) (E := q_ws E []) hf (q_Jmrg rfl rfl hK0)
set_option maxHeartbeats 4000000 in
theorem ct_X2_findReached_457 {g : q_G} {t : Nat} {r : Nat} {m : Nat} {z : Nat} {N : Nat} {ext : Nat → q_Sh} {rx : Nat → Nat → Option Nat} {L : Nat → Nat → Int64} {d : Nat} (hd : 4 ≤ d)  {I : Nat → Nat → Int32} {E : Nat → Nat → Option Nat} {r0 : (Nat → Int32) × (Nat → Int32) × (Nat → Int32)} (hf : f_X2_findReached (I 463) (I 464) (I 467) (I 468) (I 469) (I 470) = some r0) : q_Ct g m_X2_findReached d 0 0 [] [.ref 457] (q_hp (t, r, m, z, N, ext, rx, L) I E) (fun o h' => o = .inl none ∧ h' = q_hp (t, r, m, z, N, ext, rx, L) (q_ws I [(467, r0.1), (468, r0.2.1), (469, r0.2.2)]) (q_ws E [])) := by
  rw [f_X2_findReached] at hf
  refine q_Ct_of ok_X2_findReached (Nat.le_of_ble_eq_true rfl) ?_ _ rfl rfl
  change q_J g m_X2_findReached d 0 0 _ [] _ 0 0 (q_kc (t, r, m, z, N, ext, rx, L) I E 0 [some (.ref 457), none] [] [] [])
  refine q_blk 2 [] (c' := q_kc (t, r, m, z, N, ext, rx, L) I E 2 [some (.ref 457), none] [.ref 467] [] []) ok_X2_findReached rfl q_cn ?_
  obtain ⟨r4, hr4, hf⟩ := q_bd hf
  refine q_kV (M2 := m_X4_clear) (As := []) (b := 467) (v2 := none) ok_X2_findReached ok_X4_clear cv_X4_clear (ct_X4_clear_467 (d := 2) (Nat.le_refl _) hr4) rfl rfl (Or.inl rfl) rfl rfl rfl rfl (Nat.le_trans (Nat.le_of_ble_eq_true rfl) hd) (Nat.le_of_ble_eq_true rfl) (Nat.le_of_ble_eq_true rfl) (Nat.le_of_ble_eq_true rfl) (fun x hx => absurd hx List.not_mem_nil) (q_nmL0 _) (q_nmS0 _) rfl (pos' := 3) (st' := []) (lI' := [(467, r4.1), (469, r4.2)]) (lE' := []) rfl rfl rfl rfl ?_
  refine q_blk 2 [] (c' := q_kc (t, r, m, z, N, ext, rx, L) I E 5 [some (.ref 457), some (.int (0 : Int32))] [] [(467, r4.1), (469, r4.2)] []) ok_X2_findReached rfl q_cn ?_
  obtain ⟨r5, hr5, hf⟩ := q_bd hf
  refine lp_X2_findReached_L5_457 (I := q_ws I [(467, r4.1), (469, r4.2)]) (E := q_ws E []) hd (Nat.le_of_ble_eq_true rfl) (Nat.le_of_ble_eq_true rfl) 4096 hr5 ?_
  refine q_Jmrg (lI' := [(467, r5.1), (468, r5.2.1), (469, r5.2.2)]) (lE' := []) rfl rfl ?_
  refine q_blk 1 [] (c' := q_kc (t, r, m, z, N, ext, rx, L) I E 19 [some (.ref 457), none] [.ref 457] [(467, r5.1), (468, r5.2.1), (469, r5.2.2)] []) ok_X2_findReached rfl q_cn ?_
  obtain ⟨r6, hr6, hf⟩ := q_bd hf
  refine q_kV (M2 := m_X2_followLine) (As := []) (b := 457) (v2 := none) ok_X2_findReached ok_X2_followLine cv_X2_followLine (ct_X2_followLine_457 (d := 3) (Nat.le_refl _) hr6) rfl rfl (Or.inl rfl) rfl rfl rfl rfl (Nat.le_trans (Nat.le_of_ble_eq_true rfl) hd) (Nat.le_of_ble_eq_true rfl) (Nat.le_of_ble_eq_true rfl) (Nat.le_of_ble_eq_true rfl) (fun x hx => absurd hx List.not_mem_nil) (q_nmL0 _) (q_nmS0 _) rfl (pos' := 20) (st' := []) (lI' := [(467, r6.1), (468, r6.2.1), (469, r6.2.2)]) (lE' := []) rfl rfl rfl rfl ?_
  cases hf
  exact q_krv ok_X2_findReached rfl rfl (Nat.le_of_ble_eq_true rfl) (Nat.le_of_ble_eq_true rfl) ⟨rfl, q_hpe (q_fin [467, 468, 469] rfl) (q_fin [] rfl)⟩
set_option maxHeartbeats 4000000 in
theorem ct_X2_uselessCount_457 {g : q_G} {t : Nat} {r : Nat} {m : Nat} {z : Nat} {N : Nat} {ext : Nat → q_Sh} {rx : Nat → Nat → Option Nat} {L : Nat → Nat → Int64} {d : Nat} (hd : 5 ≤ d)  {I : Nat → Nat → Int32} {E : Nat → Nat → Option Nat} {r0 : Int32 × (Nat → Int32) × (Nat → Int32) × (Nat → Int32)} (hf : f_X2_uselessCount (I 457) (I 463) (I 464) (I 465) (I 467) (I 468) (I 469) (I 470) = some r0) : q_Ct g m_X2_uselessCount d 0 0 [] [.ref 457] (q_hp (t, r, m, z, N, ext, rx, L) I E) (fun o h' => o = .inl (some (.int r0.1)) ∧ h' = q_hp (t, r, m, z, N, ext, rx, L) (q_ws I [(467, r0.2.1), (468, r0.2.2.1), (469, r0.2.2.2)]) (q_ws E [])) := by
  rw [f_X2_uselessCount] at hf
  refine q_Ct_of ok_X2_uselessCount (Nat.le_of_ble_eq_true rfl) ?_ _ rfl rfl
  change q_J g m_X2_uselessCount d 0 0 _ [] _ 0 0 (q_kc (t, r, m, z, N, ext, rx, L) I E 0 [some (.ref 457)] [] [] [])
  refine q_blk 1 [] (c' := q_kc (t, r, m, z, N, ext, rx, L) I E 1 [some (.ref 457)] [.ref 457] [] []) ok_X2_uselessCount rfl q_cn ?_
  obtain ⟨r1, hr1, hf⟩ := q_bd hf
  refine q_kV (M2 := m_X2_findReached) (As := []) (b := 457) (v2 := none) ok_X2_uselessCount ok_X2_findReached cv_X2_findReached (ct_X2_findReached_457 (d := 4) (Nat.le_refl _) hr1) rfl rfl (Or.inl rfl) rfl rfl rfl rfl (Nat.le_trans (Nat.le_of_ble_eq_true rfl) hd) (Nat.le_of_ble_eq_true rfl) (Nat.le_of_ble_eq_true rfl) (Nat.le_of_ble_eq_true rfl) (fun x hx => absurd hx List.not_mem_nil) (q_nmL0 _) (q_nmS0 _) rfl (pos' := 2) (st' := []) (lI' := [(467, r1.1), (468, r1.2.1), (469, r1.2.2)]) (lE' := []) rfl rfl rfl rfl ?_
  refine q_blk 1 [] (c' := q_kc (t, r, m, z, N, ext, rx, L) I E 3 [some (.ref 457)] [.ref 457] [(467, r1.1), (468, r1.2.1), (469, r1.2.2)] []) ok_X2_uselessCount rfl q_cn ?_
  obtain ⟨r2, hr2, hf⟩ := q_bd hf
  refine q_kV (M2 := m_X2_baleCount) (As := []) (b := 457) (v2 := some (.int r2)) ok_X2_uselessCount ok_X2_baleCount cv_X2_baleCount (ct_X2_baleCount_457 (d := 1) (Nat.le_refl _) hr2) rfl rfl (Or.inl rfl) rfl rfl rfl rfl (Nat.le_trans (Nat.le_of_ble_eq_true rfl) hd) (Nat.le_of_ble_eq_true rfl) (Nat.le_of_ble_eq_true rfl) (Nat.le_of_ble_eq_true rfl) (fun x hx => absurd hx List.not_mem_nil) (q_nmL0 _) (q_nmS0 _) rfl (pos' := 4) (st' := [.int r2]) (lI' := [(467, r1.1), (468, r1.2.1), (469, r1.2.2)]) (lE' := []) rfl rfl rfl rfl ?_
  refine q_blk 2 [] (c' := q_kc (t, r, m, z, N, ext, rx, L) I E 6 [some (.ref 457)] [.ref 467, .int r2] [(467, r1.1), (468, r1.2.1), (469, r1.2.2)] []) ok_X2_uselessCount rfl q_cn ?_
  obtain ⟨r3, hr3, hf⟩ := q_bd hf
  refine q_kV (M2 := m_X4_length) (As := []) (b := 467) (v2 := some (.int r3)) ok_X2_uselessCount ok_X4_length cv_X4_length (ct_X4_length_467 (d := 1) (Nat.le_refl _) hr3) rfl rfl (Or.inl rfl) rfl rfl rfl rfl (Nat.le_trans (Nat.le_of_ble_eq_true rfl) hd) (Nat.le_of_ble_eq_true rfl) (Nat.le_of_ble_eq_true rfl) (Nat.le_of_ble_eq_true rfl) (fun x hx => absurd hx List.not_mem_nil) (q_nmL0 _) (q_nmS0 _) rfl (pos' := 7) (st' := [.int r3, .int r2]) (lI' := [(467, r1.1), (468, r1.2.1), (469, r1.2.2)]) (lE' := []) rfl rfl rfl rfl ?_
  refine q_blk 1 [] (c' := q_kc (t, r, m, z, N, ext, rx, L) I E 8 [some (.ref 457)] [.int (r2 - r3)] [(467, r1.1), (468, r1.2.1), (469, r1.2.2)] []) ok_X2_uselessCount rfl q_cn ?_
  cases hf
  exact q_kri ok_X2_uselessCount rfl rfl rfl (Nat.le_of_ble_eq_true rfl) (Nat.le_of_ble_eq_true rfl) ⟨rfl, q_hpe (q_fin [467, 468, 469] rfl) (q_fin [] rfl)⟩
set_option maxHeartbeats 4000000 in
theorem ct_X12_uselessBales_400 {g : q_G} {t : Nat} {r : Nat} {m : Nat} {z : Nat} {N : Nat} {ext : Nat → q_Sh} {rx : Nat → Nat → Option Nat} {L : Nat → Nat → Int64} {d : Nat} (hd : 6 ≤ d)  {I : Nat → Nat → Int32} {E : Nat → Nat → Option Nat} {r0 : Int32 × (Nat → Int32) × (Nat → Int32) × (Nat → Int32)} (hf : f_X12_uselessBales (I 457) (I 463) (I 464) (I 465) (I 467) (I 468) (I 469) (I 470) = some r0) : q_Ct g m_X12_uselessBales d 0 0 [] [.ref 400] (q_hp (t, r, m, z, N, ext, rx, L) I E) (fun o h' => o = .inl (some (.int r0.1)) ∧ h' = q_hp (t, r, m, z, N, ext, rx, L) (q_ws I [(467, r0.2.1), (468, r0.2.2.1), (469, r0.2.2.2)]) (q_ws E [])) := by
  rw [f_X12_uselessBales] at hf
  refine q_Ct_of ok_X12_uselessBales (Nat.le_of_ble_eq_true rfl) ?_ _ rfl rfl
  change q_J g m_X12_uselessBales d 0 0 _ [] _ 0 0 (q_kc (t, r, m, z, N, ext, rx, L) I E 0 [some (.ref 400)] [] [] [])
  refine q_blk 2 [] (c' := q_kc (t, r, m, z, N, ext, rx, L) I E 2 [some (.ref 400)] [.ref 457] [] []) ok_X12_uselessBales rfl q_cn ?_
  obtain ⟨r1, hr1, hf⟩ := q_bd hf
  refine q_kV (M2 := m_X2_uselessCount) (As := []) (b := 457) (v2 := some (.int r1.1)) ok_X12_uselessBales ok_X2_uselessCount cv_X2_uselessCount (ct_X2_uselessCount_457 (d := 5) (Nat.le_refl _) hr1) rfl rfl (Or.inl rfl) rfl rfl rfl rfl (Nat.le_trans (Nat.le_of_ble_eq_true rfl) hd) (Nat.le_of_ble_eq_true rfl) (Nat.le_of_ble_eq_true rfl) (Nat.le_of_ble_eq_true rfl) (fun x hx => absurd hx List.not_mem_nil) (q_nmL0 _) (q_nmS0 _) rfl (pos' := 3) (st' := [.int r1.1]) (lI' := [(467, r1.2.1), (468, r1.2.2.1), (469, r1.2.2.2)]) (lE' := []) rfl rfl rfl rfl ?_
  cases hf
  exact q_kri ok_X12_uselessBales rfl rfl rfl (Nat.le_of_ble_eq_true rfl) (Nat.le_of_ble_eq_true rfl) ⟨rfl, q_hpe (q_fin [467, 468, 469] rfl) (q_fin [] rfl)⟩
set_option maxHeartbeats 4000000 in
theorem ct_X12_copyings_400 {g : q_G} {t : Nat} {r : Nat} {m : Nat} {z : Nat} {N : Nat} {ext : Nat → q_Sh} {rx : Nat → Nat → Option Nat} {L : Nat → Nat → Int64} {d : Nat} (hd : 1 ≤ d)  {I : Nat → Nat → Int32} {E : Nat → Nat → Option Nat} {r0 : Int32} (hf : f_X12_copyings (I 457) = some r0) : q_Ct g m_X12_copyings d 0 0 [] [.ref 400] (q_hp (t, r, m, z, N, ext, rx, L) I E) (fun o h' => o = .inl (some (.int r0)) ∧ h' = q_hp (t, r, m, z, N, ext, rx, L) (q_ws I []) (q_ws E [])) := by
  rw [f_X12_copyings] at hf
  refine q_Ct_of ok_X12_copyings (Nat.le_of_ble_eq_true rfl) ?_ _ rfl rfl
  change q_J g m_X12_copyings d 0 0 _ [] _ 0 0 (q_kc (t, r, m, z, N, ext, rx, L) I E 0 [some (.ref 400)] [] [] [])
  refine q_blk 3 [] (c' := q_kc (t, r, m, z, N, ext, rx, L) I E 3 [some (.ref 400)] [.int ((I 457) 12)] [] []) ok_X12_copyings rfl q_cn ?_
  cases hf
  exact q_kri ok_X12_copyings rfl rfl rfl (Nat.le_of_ble_eq_true rfl) (Nat.le_of_ble_eq_true rfl) ⟨rfl, q_hpe (q_fin [] rfl) (q_fin [] rfl)⟩
set_option maxHeartbeats 4000000 in
theorem ct_X12_balesPromoted_400 {g : q_G} {t : Nat} {r : Nat} {m : Nat} {z : Nat} {N : Nat} {ext : Nat → q_Sh} {rx : Nat → Nat → Option Nat} {L : Nat → Nat → Int64} {d : Nat} (hd : 1 ≤ d)  {I : Nat → Nat → Int32} {E : Nat → Nat → Option Nat} {r0 : Int32} (hf : f_X12_balesPromoted (I 457) = some r0) : q_Ct g m_X12_balesPromoted d 0 0 [] [.ref 400] (q_hp (t, r, m, z, N, ext, rx, L) I E) (fun o h' => o = .inl (some (.int r0)) ∧ h' = q_hp (t, r, m, z, N, ext, rx, L) (q_ws I []) (q_ws E [])) := by
  rw [f_X12_balesPromoted] at hf
  refine q_Ct_of ok_X12_balesPromoted (Nat.le_of_ble_eq_true rfl) ?_ _ rfl rfl
  change q_J g m_X12_balesPromoted d 0 0 _ [] _ 0 0 (q_kc (t, r, m, z, N, ext, rx, L) I E 0 [some (.ref 400)] [] [] [])
  refine q_blk 3 [] (c' := q_kc (t, r, m, z, N, ext, rx, L) I E 3 [some (.ref 400)] [.int ((I 457) 13)] [] []) ok_X12_balesPromoted rfl q_cn ?_
  cases hf
  exact q_kri ok_X12_balesPromoted rfl rfl rfl (Nat.le_of_ble_eq_true rfl) (Nat.le_of_ble_eq_true rfl) ⟨rfl, q_hpe (q_fin [] rfl) (q_fin [] rfl)⟩
set_option maxHeartbeats 4000000 in
theorem ct_X12_balesGone_400 {g : q_G} {t : Nat} {r : Nat} {m : Nat} {z : Nat} {N : Nat} {ext : Nat → q_Sh} {rx : Nat → Nat → Option Nat} {L : Nat → Nat → Int64} {d : Nat} (hd : 1 ≤ d)  {I : Nat → Nat → Int32} {E : Nat → Nat → Option Nat} {r0 : Int32} (hf : f_X12_balesGone (I 457) = some r0) : q_Ct g m_X12_balesGone d 0 0 [] [.ref 400] (q_hp (t, r, m, z, N, ext, rx, L) I E) (fun o h' => o = .inl (some (.int r0)) ∧ h' = q_hp (t, r, m, z, N, ext, rx, L) (q_ws I []) (q_ws E [])) := by
  rw [f_X12_balesGone] at hf
  refine q_Ct_of ok_X12_balesGone (Nat.le_of_ble_eq_true rfl) ?_ _ rfl rfl
  change q_J g m_X12_balesGone d 0 0 _ [] _ 0 0 (q_kc (t, r, m, z, N, ext, rx, L) I E 0 [some (.ref 400)] [] [] [])
  refine q_blk 3 [] (c' := q_kc (t, r, m, z, N, ext, rx, L) I E 3 [some (.ref 400)] [.int ((I 457) 14)] [] []) ok_X12_balesGone rfl q_cn ?_
  cases hf
  exact q_kri ok_X12_balesGone rfl rfl rfl (Nat.le_of_ble_eq_true rfl) (Nat.le_of_ble_eq_true rfl) ⟨rfl, q_hpe (q_fin [] rfl) (q_fin [] rfl)⟩
set_option maxHeartbeats 4000000 in
theorem ct_X12_checkHook_400 {g : q_G} {t : Nat} {r : Nat} {m : Nat} {z : Nat} {N : Nat} {ext : Nat → q_Sh} {rx : Nat → Nat → Option Nat} {L : Nat → Nat → Int64} {d : Nat} (hd : 6 ≤ d)  {I : Nat → Nat → Int32} {E : Nat → Nat → Option Nat} {x1 : Int32} {r0 : (Unit ⊕ String)} (hf : f_X12_checkHook (I 402) x1 = some r0) : q_Ct g m_X12_checkHook d 1 6 [] [.ref 400, .int x1] (q_hp (t, r, m, z, N, ext, rx, L) I E) (fun o h' => o = q_oV r0 ∧ h' = q_hp (t, r, m, z, N, ext, rx, L) (q_ws I []) (q_ws E [])) := by
  rw [f_X12_checkHook] at hf
  refine q_Ct_of ok_X12_checkHook (Nat.le_of_ble_eq_true rfl) ?_ _ rfl rfl
  change q_J g m_X12_checkHook d 1 6 _ [] _ 0 0 (q_kc (t, r, m, z, N, ext, rx, L) I E 0 [some (.ref 400), some (.int x1)] [] [] [])
  refine q_blf 1 [] (a := q_kc (t, r, m, z, N, ext, rx, L) I E 7 [some (.ref 400), some (.int x1)] [] [] []) (b := q_kc (t, r, m, z, N, ext, rx, L) I E 2 [some (.ref 400), some (.int x1)] [] [] []) (P := x1 < 0) ok_X12_checkHook rfl q_cn (fun h1 => ?_) (fun h1 => ?_)
  · have hf := q_ip h1 hf
    cases hf
    exact q_o_throwS ok_X12_checkHook rfl rfl rfl rfl rfl rfl q_inIOB (by decide +kernel) (by decide +kernel) q_fitIOB q_fits (Nat.le_trans (Nat.le_of_ble_eq_true rfl) hd) (Nat.le_of_ble_eq_true rfl) (Nat.le_of_ble_eq_true rfl) (Nat.le_of_ble_eq_true rfl) ⟨rfl, q_hpe (q_fin [] rfl) (q_fin [] rfl)⟩
  · have hf := q_in h1 hf
    refine q_blf 4 [] (a := q_kc (t, r, m, z, N, ext, rx, L) I E 12 [some (.ref 400), some (.int x1)] [] [] []) (b := q_kc (t, r, m, z, N, ext, rx, L) I E 7 [some (.ref 400), some (.int x1)] [] [] []) (P := x1 < ((I 402) 3)) ok_X12_checkHook rfl q_cn (fun h2 => ?_) (fun h2 => ?_)
    · have hf := q_ip h2 hf
      cases hf
      exact q_krv ok_X12_checkHook rfl rfl (Nat.le_of_ble_eq_true rfl) (Nat.le_of_ble_eq_true rfl) ⟨rfl, q_hpe (q_fin [] rfl) (q_fin [] rfl)⟩
    · have hf := q_in h2 hf
      cases hf
      exact q_o_throwS ok_X12_checkHook rfl rfl rfl rfl rfl rfl q_inIOB (by decide +kernel) (by decide +kernel) q_fitIOB q_fits (Nat.le_trans (Nat.le_of_ble_eq_true rfl) hd) (Nat.le_of_ble_eq_true rfl) (Nat.le_of_ble_eq_true rfl) (Nat.le_of_ble_eq_true rfl) ⟨rfl, q_hpe (q_fin [] rfl) (q_fin [] rfl)⟩
set_option maxHeartbeats 4000000 in
theorem ct_X12_holdsBale_400 {g : q_G} {t : Nat} {r : Nat} {m : Nat} {z : Nat} {N : Nat} {ext : Nat → q_Sh} {rx : Nat → Nat → Option Nat} {L : Nat → Nat → Int64} {d : Nat} (hd : 7 ≤ d)  {I : Nat → Nat → Int32} {E : Nat → Nat → Option Nat} {x1 : Int32} {r0 : (Bool ⊕ String)} (hf : f_X12_holdsBale (I 402) (I 470) x1 = some r0) : q_Ct g m_X12_holdsBale d 1 6 [] [.ref 400, .int x1] (q_hp (t, r, m, z, N, ext, rx, L) I E) (fun o h' => o = q_oZ r0 ∧ h' = q_hp (t, r, m, z, N, ext, rx, L) (q_ws I []) (q_ws E [])) := by
  rw [f_X12_holdsBale] at hf
  refine q_Ct_of ok_X12_holdsBale (Nat.le_of_ble_eq_true rfl) ?_ _ rfl rfl
  change q_J g m_X12_holdsBale d 1 6 _ [] _ 0 0 (q_kc (t, r, m, z, N, ext, rx, L) I E 0 [some (.ref 400), some (.int x1)] [] [] [])
  refine q_blk 2 [] (c' := q_kc (t, r, m, z, N, ext, rx, L) I E 2 [some (.ref 400), some (.int x1)] [.int x1, .ref 400] [] []) ok_X12_holdsBale rfl q_cn ?_
  obtain ⟨r1, hr1, hf⟩ := q_bd hf
  cases hv4 : r1 with
  | inl v2 =>
    have hf := q_sm0 hv4 hf
    refine q_kV (M2 := m_X12_checkHook) (As := [.int x1]) (b := 400) (v2 := none) ok_X12_holdsBale ok_X12_checkHook cv_X12_checkHook (ct_X12_checkHook_400 (d := 6) (Nat.le_refl _) hr1) (q_oVl hv4) rfl (Or.inl rfl) rfl rfl rfl rfl (Nat.le_trans (Nat.le_of_ble_eq_true rfl) hd) (Nat.le_of_ble_eq_true rfl) (Nat.le_of_ble_eq_true rfl) (Nat.le_of_ble_eq_true rfl) (fun x hx => absurd hx List.not_mem_nil) (q_nmL0 _) (q_nmS0 _) rfl (pos' := 3) (st' := []) (lI' := []) (lE' := []) rfl rfl rfl rfl ?_
    refine q_blk 3 [] (c' := q_kc (t, r, m, z, N, ext, rx, L) I E 6 [some (.ref 400), some (.int x1)] [.int x1, .ref 457] [] []) ok_X12_holdsBale rfl q_cn ?_
    obtain ⟨r5, hr5, hf⟩ := q_bd hf
    refine q_kV (M2 := m_X2_held) (As := [.int x1]) (b := 457) (v2 := some (.int r5)) ok_X12_holdsBale ok_X2_held cv_X2_held (ct_X2_held_457 (d := 1) (Nat.le_refl _) hr5) rfl rfl (Or.inl rfl) rfl rfl rfl rfl (Nat.le_trans (Nat.le_of_ble_eq_true rfl) hd) (Nat.le_of_ble_eq_true rfl) (Nat.le_of_ble_eq_true rfl) (Nat.le_of_ble_eq_true rfl) (fun x hx => absurd hx List.not_mem_nil) (q_nmL0 _) (q_nmS0 _) rfl (pos' := 7) (st' := [.int r5]) (lI' := []) (lE' := []) rfl rfl rfl rfl ?_
    refine q_blf 1 [] (a := q_kc (t, r, m, z, N, ext, rx, L) I E 11 [some (.ref 400), some (.int x1)] [] [] []) (b := q_kc (t, r, m, z, N, ext, rx, L) I E 9 [some (.ref 400), some (.int x1)] [] [] []) (P := r5 = (-1 : Int32)) ok_X12_holdsBale rfl q_cn (fun h6 => ?_) (fun h6 => ?_)
    · have hf := q_ip h6 hf
      refine q_blk 1 [] (c' := q_kc (t, r, m, z, N, ext, rx, L) I E 12 [some (.ref 400), some (.int x1)] [.int (0 : Int32)] [] []) ok_X12_holdsBale rfl q_cn ?_
      cases hf
      exact q_kri ok_X12_holdsBale rfl rfl rfl (Nat.le_of_ble_eq_true rfl) (Nat.le_of_ble_eq_true rfl) ⟨rfl, q_hpe (q_fin [] rfl) (q_fin [] rfl)⟩
    · have hf := q_in h6 hf
      refine q_blk 2 [] (c' := q_kc (t, r, m, z, N, ext, rx, L) I E 12 [some (.ref 400), some (.int x1)] [.int (1 : Int32)] [] []) ok_X12_holdsBale rfl q_cn ?_
      cases hf
      exact q_kri ok_X12_holdsBale rfl rfl rfl (Nat.le_of_ble_eq_true rfl) (Nat.le_of_ble_eq_true rfl) ⟨rfl, q_hpe (q_fin [] rfl) (q_fin [] rfl)⟩
  | inr e3 =>
    have hf := q_sm1 hv4 hf
    cases hf
    refine q_kVx (M2 := m_X12_checkHook) (As := [.int x1]) (b := 400) ok_X12_holdsBale ok_X12_checkHook cv_X12_checkHook (ct_X12_checkHook_400 (d := 6) (Nat.le_refl _) hr1) (q_oVr hv4) rfl (Or.inl rfl) rfl rfl rfl rfl (Nat.le_trans (Nat.le_of_ble_eq_true rfl) hd) (Nat.le_of_ble_eq_true rfl) (Nat.le_of_ble_eq_true rfl) (Nat.le_of_ble_eq_true rfl) (fun x hx => absurd hx List.not_mem_nil) (q_nmL0 _) (q_nmS0 _) rfl (lI' := []) (lE' := []) rfl rfl ⟨rfl, q_hpe (q_fin [] rfl) (q_fin [] rfl)⟩
set_option maxHeartbeats 4000000 in
theorem ct_X12_heldBale_400 {g : q_G} {t : Nat} {r : Nat} {m : Nat} {z : Nat} {N : Nat} {ext : Nat → q_Sh} {rx : Nat → Nat → Option Nat} {L : Nat → Nat → Int64} {d : Nat} (hd : 7 ≤ d)  {I : Nat → Nat → Int32} {E : Nat → Nat → Option Nat} {x1 : Int32} {r0 : (Int32 ⊕ String)} (hf : f_X12_heldBale (I 402) (I 470) x1 = some r0) : q_Ct g m_X12_heldBale d 2 12 [] [.ref 400, .int x1] (q_hp (t, r, m, z, N, ext, rx, L) I E) (fun o h' => o = q_oI r0 ∧ h' = q_hp (t, r, m, z, N, ext, rx, L) (q_ws I []) (q_ws E [])) := by
  rw [f_X12_heldBale] at hf
  refine q_Ct_of ok_X12_heldBale (Nat.le_of_ble_eq_true rfl) ?_ _ rfl rfl
  change q_J g m_X12_heldBale d 2 12 _ [] _ 0 0 (q_kc (t, r, m, z, N, ext, rx, L) I E 0 [some (.ref 400), some (.int x1), none] [] [] [])
  refine q_blk 2 [] (c' := q_kc (t, r, m, z, N, ext, rx, L) I E 2 [some (.ref 400), some (.int x1), none] [.int x1, .ref 400] [] []) ok_X12_heldBale rfl q_cn ?_
  obtain ⟨r1, hr1, hf⟩ := q_bd hf
  cases hv4 : r1 with
  | inl v2 =>
    have hf := q_sm0 hv4 hf
    refine q_kV (M2 := m_X12_checkHook) (As := [.int x1]) (b := 400) (v2 := none) ok_X12_heldBale ok_X12_checkHook cv_X12_checkHook (ct_X12_checkHook_400 (d := 6) (Nat.le_refl _) hr1) (q_oVl hv4) rfl (Or.inl rfl) rfl rfl rfl rfl (Nat.le_trans (Nat.le_of_ble_eq_true rfl) hd) (Nat.le_of_ble_eq_true rfl) (Nat.le_of_ble_eq_true rfl) (Nat.le_of_ble_eq_true rfl) (fun x hx => absurd hx List.not_mem_nil) (q_nmL0 _) (q_nmS0 _) rfl (pos' := 3) (st' := []) (lI' := []) (lE' := []) rfl rfl rfl rfl ?_
    refine q_blk 3 [] (c' := q_kc (t, r, m, z, N, ext, rx, L) I E 6 [some (.ref 400), some (.int x1), none] [.int x1, .ref 457] [] []) ok_X12_heldBale rfl q_cn ?_
    obtain ⟨r5, hr5, hf⟩ := q_bd hf
    refine q_kV (M2 := m_X2_held) (As := [.int x1]) (b := 457) (v2 := some (.int r5)) ok_X12_heldBale ok_X2_held cv_X2_held (ct_X2_held_457 (d := 1) (Nat.le_refl _) hr5) rfl rfl (Or.inl rfl) rfl rfl rfl rfl (Nat.le_trans (Nat.le_of_ble_eq_true rfl) hd) (Nat.le_of_ble_eq_true rfl) (Nat.le_of_ble_eq_true rfl) (Nat.le_of_ble_eq_true rfl) (fun x hx => absurd hx List.not_mem_nil) (q_nmL0 _) (q_nmS0 _) rfl (pos' := 7) (st' := [.int r5]) (lI' := []) (lE' := []) rfl rfl rfl rfl ?_
    refine q_blf 3 [] (a := q_kc (t, r, m, z, N, ext, rx, L) I E 16 [some (.ref 400), some (.int x1), some (.int r5)] [] [] []) (b := q_kc (t, r, m, z, N, ext, rx, L) I E 11 [some (.ref 400), some (.int x1), some (.int r5)] [] [] []) (P := ¬ r5 = (-1 : Int32)) ok_X12_heldBale rfl q_cn (fun h6 => ?_) (fun h6 => ?_)
    · have hf := q_ip h6 hf
      refine q_blk 1 [] (c' := q_kc (t, r, m, z, N, ext, rx, L) I E 17 [some (.ref 400), some (.int x1), some (.int r5)] [.int r5] [] []) ok_X12_heldBale rfl q_cn ?_
      cases hf
      exact q_kri ok_X12_heldBale rfl rfl rfl (Nat.le_of_ble_eq_true rfl) (Nat.le_of_ble_eq_true rfl) ⟨rfl, q_hpe (q_fin [] rfl) (q_fin [] rfl)⟩
    · have hf := q_in h6 hf
      cases hf
      exact q_o_throwS ok_X12_heldBale rfl rfl rfl rfl rfl rfl q_inISE (by decide +kernel) (by decide +kernel) q_fitISE q_fits (Nat.le_trans (Nat.le_of_ble_eq_true rfl) hd) (Nat.le_of_ble_eq_true rfl) (Nat.le_of_ble_eq_true rfl) (Nat.le_of_ble_eq_true rfl) ⟨rfl, q_hpe (q_fin [] rfl) (q_fin [] rfl)⟩
  | inr e3 =>
    have hf := q_sm1 hv4 hf
    cases hf
    refine q_kVx (M2 := m_X12_checkHook) (As := [.int x1]) (b := 400) ok_X12_heldBale ok_X12_checkHook cv_X12_checkHook (ct_X12_checkHook_400 (d := 6) (Nat.le_refl _) hr1) (q_oVr hv4) rfl (Or.inl rfl) rfl rfl rfl rfl (Nat.le_trans (Nat.le_of_ble_eq_true rfl) hd) (Nat.le_of_ble_eq_true rfl) (Nat.le_of_ble_eq_true rfl) (Nat.le_of_ble_eq_true rfl) (fun x hx => absurd hx List.not_mem_nil) (q_nmL0 _) (q_nmS0 _) rfl (lI' := []) (lE' := []) rfl rfl ⟨rfl, q_hpe (q_fin [] rfl) (q_fin [] rfl)⟩
set_option maxHeartbeats 4000000 in
theorem ct_X1_place_458 {g : q_G} {t : Nat} {r : Nat} {m : Nat} {z : Nat} {N : Nat} {ext : Nat → q_Sh} {rx : Nat → Nat → Option Nat} {L : Nat → Nat → Int64} {d : Nat} (hd : 1 ≤ d)  {I : Nat → Nat → Int32} {E : Nat → Nat → Option Nat} {x1 : Int32} {r0 : Int32} (hf : f_X1_place (I 460) x1 = some r0) : q_Ct g m_X1_place d 0 0 [] [.ref 458, .int x1] (q_hp (t, r, m, z, N, ext, rx, L) I E) (fun o h' => o = .inl (some (.int r0)) ∧ h' = q_hp (t, r, m, z, N, ext, rx, L) (q_ws I []) (q_ws E [])) := by
  rw [f_X1_place] at hf
  refine q_Ct_of ok_X1_place (Nat.le_of_ble_eq_true rfl) ?_ _ rfl rfl
  change q_J g m_X1_place d 0 0 _ [] _ 0 0 (q_kc (t, r, m, z, N, ext, rx, L) I E 0 [some (.ref 458), some (.int x1)] [] [] [])
  refine q_blf 1 [] (a := q_kc (t, r, m, z, N, ext, rx, L) I E 10 [some (.ref 458), some (.int x1)] [] [] []) (b := q_kc (t, r, m, z, N, ext, rx, L) I E 2 [some (.ref 458), some (.int x1)] [] [] []) (P := x1 < 0) ok_X1_place rfl q_cn (fun h1 => ?_) (fun h1 => ?_)
  · have hf := q_ip h1 hf
    refine q_blk 1 [] (c' := q_kc (t, r, m, z, N, ext, rx, L) I E 11 [some (.ref 458), some (.int x1)] [.int (0 : Int32)] [] []) ok_X1_place rfl q_cn ?_
    cases hf
    exact q_kri ok_X1_place rfl rfl rfl (Nat.le_of_ble_eq_true rfl) (Nat.le_of_ble_eq_true rfl) ⟨rfl, q_hpe (q_fin [] rfl) (q_fin [] rfl)⟩
  · have hf := q_in h1 hf
    refine q_blf 2 [] (a := q_kc (t, r, m, z, N, ext, rx, L) I E 10 [some (.ref 458), some (.int x1)] [] [] []) (b := q_kc (t, r, m, z, N, ext, rx, L) I E 5 [some (.ref 458), some (.int x1)] [] [] []) (P := (128 : Int32) ≤ x1) ok_X1_place rfl q_cn (fun h2 => ?_) (fun h2 => ?_)
    · have hf := q_ip h2 hf
      refine q_blk 1 [] (c' := q_kc (t, r, m, z, N, ext, rx, L) I E 11 [some (.ref 458), some (.int x1)] [.int (0 : Int32)] [] []) ok_X1_place rfl q_cn ?_
      cases hf
      exact q_kri ok_X1_place rfl rfl rfl (Nat.le_of_ble_eq_true rfl) (Nat.le_of_ble_eq_true rfl) ⟨rfl, q_hpe (q_fin [] rfl) (q_fin [] rfl)⟩
    · have hf := q_in h2 hf
      obtain ⟨j3, hj3, hf⟩ := q_bd hf
      refine q_blk 5 [j3] (c' := q_kc (t, r, m, z, N, ext, rx, L) I E 11 [some (.ref 458), some (.int x1)] [.int ((I 460) j3)] [] []) ok_X1_place rfl (q_cc hj3 q_cn) ?_
      cases hf
      exact q_kri ok_X1_place rfl rfl rfl (Nat.le_of_ble_eq_true rfl) (Nat.le_of_ble_eq_true rfl) ⟨rfl, q_hpe (q_fin [] rfl) (q_fin [] rfl)⟩
set_option maxHeartbeats 4000000 in
theorem ct_X12_placeOf_400 {g : q_G} {t : Nat} {r : Nat} {m : Nat} {z : Nat} {N : Nat} {ext : Nat → q_Sh} {rx : Nat → Nat → Option Nat} {L : Nat → Nat → Int64} {d : Nat} (hd : 8 ≤ d)  {I : Nat → Nat → Int32} {E : Nat → Nat → Option Nat} {x1 : Int32} {r0 : (Int32 ⊕ String)} (hf : f_X12_placeOf (I 402) (I 460) (I 470) x1 = some r0) : q_Ct g m_X12_placeOf d 2 12 [] [.ref 400, .int x1] (q_hp (t, r, m, z, N, ext, rx, L) I E) (fun o h' => o = q_oI r0 ∧ h' = q_hp (t, r, m, z, N, ext, rx, L) (q_ws I []) (q_ws E [])) := by
  rw [f_X12_placeOf] at hf
  refine q_Ct_of ok_X12_placeOf (Nat.le_of_ble_eq_true rfl) ?_ _ rfl rfl
  change q_J g m_X12_placeOf d 2 12 _ [] _ 0 0 (q_kc (t, r, m, z, N, ext, rx, L) I E 0 [some (.ref 400), some (.int x1)] [] [] [])
  refine q_blk 5 [] (c' := q_kc (t, r, m, z, N, ext, rx, L) I E 5 [some (.ref 400), some (.int x1)] [.int x1, .ref 400, .ref 458] [] []) ok_X12_placeOf rfl q_cn ?_
  obtain ⟨r1, hr1, hf⟩ := q_bd hf
  cases hv4 : r1 with
  | inl v2 =>
    have hf := q_sm0 hv4 hf
    refine q_kV (M2 := m_X12_heldBale) (As := [.int x1]) (b := 400) (v2 := some (.int v2)) ok_X12_placeOf ok_X12_heldBale cv_X12_heldBale (ct_X12_heldBale_400 (d := 7) (Nat.le_refl _) hr1) (q_oIl hv4) rfl (Or.inl rfl) rfl rfl rfl rfl (Nat.le_trans (Nat.le_of_ble_eq_true rfl) hd) (Nat.le_of_ble_eq_true rfl) (Nat.le_of_ble_eq_true rfl) (Nat.le_of_ble_eq_true rfl) (fun x hx => absurd hx List.not_mem_nil) (q_nmL0 _) (q_nmS0 _) rfl (pos' := 6) (st' := [.int r5]) (lI' := []) (lE' := []) rfl rfl rfl rfl ?_
    obtain ⟨r5, hr5, hf⟩ := q_bd hf
    refine q_kV (M2 := m_X1_place) (As := [.int v2]) (b := 458) (v2 := some (.int r5)) ok_X12_placeOf ok_X1_place cv_X1_place (ct_X1_place_458 (d := 1) (Nat.le_refl _) hr5) rfl rfl (Or.inl rfl) rfl rfl rfl rfl (Nat.le_trans (Nat.le_of_ble_eq_true rfl) hd) (Nat.le_of_ble_eq_true rfl) (Nat.le_of_ble_eq_true rfl) (Nat.le_of_ble_eq_true rfl) (fun x hx => absurd hx List.not_mem_nil) (q_nmL0 _) (q_nmS0 _) rfl (pos' := 7) (st' := [.int r5]) (lI' := []) (lE' := []) rfl rfl rfl rfl ?_
    cases hf
    exact q_kri ok_X12_placeOf rfl rfl rfl (Nat.le_of_ble_eq_true rfl) (Nat.le_of_ble_eq_true rfl) ⟨rfl, q_hpe (q_fin [] rfl) (q_fin [] rfl)⟩
  | inr e3 =>
    have hf := q_sm1 hv4 hf
    cases hf
    refine q_kVx (M2 := m_X12_heldBale) (As := [.int x1]) (b := 400) ok_X12_placeOf ok_X12_heldBale cv_X12_heldBale (ct_X12_heldBale_400 (d := 7) (Nat.le_refl _) hr1) (q_oIr hv4) rfl (Or.inl rfl) rfl rfl rfl rfl (Nat.le_trans (Nat.le_of_ble_eq_true rfl) hd) (Nat.le_of_ble_eq_true rfl) (Nat.le_of_ble_eq_true rfl) (Nat.le_of_ble_eq_true rfl) (fun x hx => absurd hx List.not_mem_nil) (q_nmL0 _) (q_nmS0 _) rfl (lI' := []) (lE' := []) rfl rfl ⟨rfl, q_hpe (q_fin [] rfl) (q_fin [] rfl)⟩
set_option maxHeartbeats 4000000 in
theorem ct_X1_size_458 {g : q_G} {t : Nat} {r : Nat} {m : Nat} {z : Nat} {N : Nat} {ext : Nat → q_Sh} {rx : Nat → Nat → Option Nat} {L : Nat → Nat → Int64} {d : Nat} (hd : 1 ≤ d)  {I : Nat → Nat → Int32} {E : Nat → Nat → Option Nat} {x1 : Int32} {r0 : Int32} (hf : f_X1_size (I 461) x1 = some r0) : q_Ct g m_X1_size d 0 0 [] [.ref 458, .int x1] (q_hp (t, r, m, z, N, ext, rx, L) I E) (fun o h' => o = .inl (some (.int r0)) ∧ h' = q_hp (t, r, m, z, N, ext, rx, L) (q_ws I []) (q_ws E [])) := by
  rw [f_X1_size] at hf
  refine q_Ct_of ok_X1_size (Nat.le_of_ble_eq_true rfl) ?_ _ rfl rfl
  change q_J g m_X1_size d 0 0 _ [] _ 0 0 (q_kc (t, r, m, z, N, ext, rx, L) I E 0 [some (.ref 458), some (.int x1)] [] [] [])
  refine q_blf 1 [] (a := q_kc (t, r, m, z, N, ext, rx, L) I E 10 [some (.ref 458), some (.int x1)] [] [] []) (b := q_kc (t, r, m, z, N, ext, rx, L) I E 2 [some (.ref 458), some (.int x1)] [] [] []) (P := x1 < 0) ok_X1_size rfl q_cn (fun h1 => ?_) (fun h1 => ?_)
  · have hf := q_ip h1 hf
    refine q_blk 1 [] (c' := q_kc (t, r, m, z, N, ext, rx, L) I E 11 [some (.ref 458), some (.int x1)] [.int (0 : Int32)] [] []) ok_X1_size rfl q_cn ?_
    cases hf
    exact q_kri ok_X1_size rfl rfl rfl (Nat.le_of_ble_eq_true rfl) (Nat.le_of_ble_eq_true rfl) ⟨rfl, q_hpe (q_fin [] rfl) (q_fin [] rfl)⟩
  · have hf := q_in h1 hf
    refine q_blf 2 [] (a := q_kc (t, r, m, z, N, ext, rx, L) I E 10 [some (.ref 458), some (.int x1)] [] [] []) (b := q_kc (t, r, m, z, N, ext, rx, L) I E 5 [some (.ref 458), some (.int x1)] [] [] []) (P := (128 : Int32) ≤ x1) ok_X1_size rfl q_cn (fun h2 => ?_) (fun h2 => ?_)
    · have hf := q_ip h2 hf
      refine q_blk 1 [] (c' := q_kc (t, r, m, z, N, ext, rx, L) I E 11 [some (.ref 458), some (.int x1)] [.int (0 : Int32)] [] []) ok_X1_size rfl q_cn ?_
      cases hf
      exact q_kri ok_X1_size rfl rfl rfl (Nat.le_of_ble_eq_true rfl) (Nat.le_of_ble_eq_true rfl) ⟨rfl, q_hpe (q_fin [] rfl) (q_fin [] rfl)⟩
    · have hf := q_in h2 hf
      obtain ⟨j3, hj3, hf⟩ := q_bd hf
      refine q_blk 5 [j3] (c' := q_kc (t, r, m, z, N, ext, rx, L) I E 11 [some (.ref 458), some (.int x1)] [.int ((I 461) j3)] [] []) ok_X1_size rfl (q_cc hj3 q_cn) ?_
      cases hf
      exact q_kri ok_X1_size rfl rfl rfl (Nat.le_of_ble_eq_true rfl) (Nat.le_of_ble_eq_true rfl) ⟨rfl, q_hpe (q_fin [] rfl) (q_fin [] rfl)⟩
set_option maxHeartbeats 4000000 in
theorem ct_X12_sizeOf_400 {g : q_G} {t : Nat} {r : Nat} {m : Nat} {z : Nat} {N : Nat} {ext : Nat → q_Sh} {rx : Nat → Nat → Option Nat} {L : Nat → Nat → Int64} {d : Nat} (hd : 8 ≤ d)  {I : Nat → Nat → Int32} {E : Nat → Nat → Option Nat} {x1 : Int32} {r0 : (Int32 ⊕ String)} (hf : f_X12_sizeOf (I 402) (I 461) (I 470) x1 = some r0) : q_Ct g m_X12_sizeOf d 2 12 [] [.ref 400, .int x1] (q_hp (t, r, m, z, N, ext, rx, L) I E) (fun o h' => o = q_oI r0 ∧ h' = q_hp (t, r, m, z, N, ext, rx, L) (q_ws I []) (q_ws E [])) := by
  rw [f_X12_sizeOf] at hf
  refine q_Ct_of ok_X12_sizeOf (Nat.le_of_ble_eq_true rfl) ?_ _ rfl rfl
  change q_J g m_X12_sizeOf d 2 12 _ [] _ 0 0 (q_kc (t, r, m, z, N, ext, rx, L) I E 0 [some (.ref 400), some (.int x1)] [] [] [])
  refine q_blk 5 [] (c' := q_kc (t, r, m, z, N, ext, rx, L) I E 5 [some (.ref 400), some (.int x1)] [.int x1, .ref 400, .ref 458] [] []) ok_X12_sizeOf rfl q_cn ?_
  obtain ⟨r1, hr1, hf⟩ := q_bd hf
  cases hv4 : r1 with
  | inl v2 =>
    have hf := q_sm0 hv4 hf
    refine q_kV (M2 := m_X12_heldBale) (As := [.int x1]) (b := 400) (v2 := some (.int v2)) ok_X12_sizeOf ok_X12_heldBale cv_X12_heldBale (ct_X12_heldBale_400 (d := 7) (Nat.le_refl _) hr1) (q_oIl hv4) rfl (Or.inl rfl) rfl rfl rfl rfl (Nat.le_trans (Nat.le_of_ble_eq_true rfl) hd) (Nat.le_of_ble_eq_true rfl) (Nat.le_of_ble_eq_true rfl) (Nat.le_of_ble_eq_true rfl) (fun x hx => absurd hx List.not_mem_nil) (q_nmL0 _) (q_nmS0 _) rfl (pos' := 6) (st' := [.int r5]) (lI' := []) (lE' := []) rfl rfl rfl rfl ?_
    obtain ⟨r5, hr5, hf⟩ := q_bd hf
    refine q_kV (M2 := m_X1_size) (As := [.int v2]) (b := 458) (v2 := some (.int r5)) ok_X12_sizeOf ok_X1_size cv_X1_size (ct_X1_size_458 (d := 1) (Nat.le_refl _) hr5) rfl rfl (Or.inl rfl) rfl rfl rfl rfl (Nat.le_trans (Nat.le_of_ble_eq_true rfl) hd) (Nat.le_of_ble_eq_true rfl) (Nat.le_of_ble_eq_true rfl) (Nat.le_of_ble_eq_true rfl) (fun x hx => absurd hx List.not_mem_nil) (q_nmL0 _) (q_nmS0 _) rfl (pos' := 7) (st' := [.int r5]) (lI' := []) (lE' := []) rfl rfl rfl rfl ?_
    cases hf
    exact q_kri ok_X12_sizeOf rfl rfl rfl (Nat.le_of_ble_eq_true rfl) (Nat.le_of_ble_eq_true rfl) ⟨rfl, q_hpe (q_fin [] rfl) (q_fin [] rfl)⟩
  | inr e3 =>
    have hf := q_sm1 hv4 hf
    cases hf
    refine q_kVx (M2 := m_X12_heldBale) (As := [.int x1]) (b := 400) ok_X12_sizeOf ok_X12_heldBale cv_X12_heldBale (ct_X12_heldBale_400 (d := 7) (Nat.le_refl _) hr1) (q_oIr hv4) rfl (Or.inl rfl) rfl rfl rfl rfl (Nat.le_trans (Nat.le_of_ble_eq_true rfl) hd) (Nat.le_of_ble_eq_true rfl) (Nat.le_of_ble_eq_true rfl) (Nat.le_of_ble_eq_true rfl) (fun x hx => absurd hx List.not_mem_nil) (q_nmL0 _) (q_nmS0 _) rfl (lI' := []) (lE' := []) rfl rfl ⟨rfl, q_hpe (q_fin [] rfl) (q_fin [] rfl)⟩
set_option maxHeartbeats 4000000 in
theorem ct_X12_ropesOf_400 {g : q_G} {t : Nat} {r : Nat} {m : Nat} {z : Nat} {N : Nat} {ext : Nat → q_Sh} {rx : Nat → Nat → Option Nat} {L : Nat → Nat → Int64} {d : Nat} (hd : 8 ≤ d)  {I : Nat → Nat → Int32} {E : Nat → Nat → Option Nat} {x1 : Int32} {r0 : (Int32 ⊕ String)} (hf : f_X12_ropesOf (I 402) (I 463) (I 470) x1 = some r0) : q_Ct g m_X12_ropesOf d 2 12 [] [.ref 400, .int x1] (q_hp (t, r, m, z, N, ext, rx, L) I E) (fun o h' => o = q_oI r0 ∧ h' = q_hp (t, r, m, z, N, ext, rx, L) (q_ws I []) (q_ws E [])) := by
  rw [f_X12_ropesOf] at hf
  refine q_Ct_of ok_X12_ropesOf (Nat.le_of_ble_eq_true rfl) ?_ _ rfl rfl
  change q_J g m_X12_ropesOf d 2 12 _ [] _ 0 0 (q_kc (t, r, m, z, N, ext, rx, L) I E 0 [some (.ref 400), some (.int x1)] [] [] [])
  refine q_blk 5 [] (c' := q_kc (t, r, m, z, N, ext, rx, L) I E 5 [some (.ref 400), some (.int x1)] [.int x1, .ref 400, .ref 458] [] []) ok_X12_ropesOf rfl q_cn ?_
  obtain ⟨r1, hr1, hf⟩ := q_bd hf
  cases hv4 : r1 with
  | inl v2 =>
    have hf := q_sm0 hv4 hf
    refine q_kV (M2 := m_X12_heldBale) (As := [.int x1]) (b := 400) (v2 := some (.int v2)) ok_X12_ropesOf ok_X12_heldBale cv_X12_heldBale (ct_X12_heldBale_400 (d := 7) (Nat.le_refl _) hr1) (q_oIl hv4) rfl (Or.inl rfl) rfl rfl rfl rfl (Nat.le_trans (Nat.le_of_ble_eq_true rfl) hd) (Nat.le_of_ble_eq_true rfl) (Nat.le_of_ble_eq_true rfl) (Nat.le_of_ble_eq_true rfl) (fun x hx => absurd hx List.not_mem_nil) (q_nmL0 _) (q_nmS0 _) rfl (pos' := 6) (st' := [.int r5]) (lI' := []) (lE' := []) rfl rfl rfl rfl ?_
    obtain ⟨r5, hr5, hf⟩ := q_bd hf
    refine q_kV (M2 := m_X1_ropes) (As := [.int v2]) (b := 458) (v2 := some (.int r5)) ok_X12_ropesOf ok_X1_ropes cv_X1_ropes (ct_X1_ropes_458 (d := 1) (Nat.le_refl _) hr5) rfl rfl (Or.inl rfl) rfl rfl rfl rfl (Nat.le_trans (Nat.le_of_ble_eq_true rfl) hd) (Nat.le_of_ble_eq_true rfl) (Nat.le_of_ble_eq_true rfl) (Nat.le_of_ble_eq_true rfl) (fun x hx => absurd hx List.not_mem_nil) (q_nmL0 _) (q_nmS0 _) rfl (pos' := 7) (st' := [.int r5]) (lI' := []) (lE' := []) rfl rfl rfl rfl ?_
    cases hf
    exact q_kri ok_X12_ropesOf rfl rfl rfl (Nat.le_of_ble_eq_true rfl) (Nat.le_of_ble_eq_true rfl) ⟨rfl, q_hpe (q_fin [] rfl) (q_fin [] rfl)⟩
  | inr e3 =>
    have hf := q_sm1 hv4 hf
    cases hf
    refine q_kVx (M2 := m_X12_heldBale) (As := [.int x1]) (b := 400) ok_X12_ropesOf ok_X12_heldBale cv_X12_heldBale (ct_X12_heldBale_400 (d := 7) (Nat.le_refl _) hr1) (q_oIr hv4) rfl (Or.inl rfl) rfl rfl rfl rfl (Nat.le_trans (Nat.le_of_ble_eq_true rfl) hd) (Nat.le_of_ble_eq_true rfl) (Nat.le_of_ble_eq_true rfl) (Nat.le_of_ble_eq_true rfl) (fun x hx => absurd hx List.not_mem_nil) (q_nmL0 _) (q_nmS0 _) rfl (lI' := []) (lE' := []) rfl rfl ⟨rfl, q_hpe (q_fin [] rfl) (q_fin [] rfl)⟩
set_option maxHeartbeats 4000000 in
theorem ct_X1_age_458 {g : q_G} {t : Nat} {r : Nat} {m : Nat} {z : Nat} {N : Nat} {ext : Nat → q_Sh} {rx : Nat → Nat → Option Nat} {L : Nat → Nat → Int64} {d : Nat} (hd : 1 ≤ d)  {I : Nat → Nat → Int32} {E : Nat → Nat → Option Nat} {x1 : Int32} {r0 : Int32} (hf : f_X1_age (I 462) x1 = some r0) : q_Ct g m_X1_age d 0 0 [] [.ref 458, .int x1] (q_hp (t, r, m, z, N, ext, rx, L) I E) (fun o h' => o = .inl (some (.int r0)) ∧ h' = q_hp (t, r, m, z, N, ext, rx, L) (q_ws I []) (q_ws E [])) := by
  rw [f_X1_age] at hf
  refine q_Ct_of ok_X1_age (Nat.le_of_ble_eq_true rfl) ?_ _ rfl rfl
  change q_J g m_X1_age d 0 0 _ [] _ 0 0 (q_kc (t, r, m, z, N, ext, rx, L) I E 0 [some (.ref 458), some (.int x1)] [] [] [])
  refine q_blf 1 [] (a := q_kc (t, r, m, z, N, ext, rx, L) I E 10 [some (.ref 458), some (.int x1)] [] [] []) (b := q_kc (t, r, m, z, N, ext, rx, L) I E 2 [some (.ref 458), some (.int x1)] [] [] []) (P := x1 < 0) ok_X1_age rfl q_cn (fun h1 => ?_) (fun h1 => ?_)
  · have hf := q_ip h1 hf
    refine q_blk 1 [] (c' := q_kc (t, r, m, z, N, ext, rx, L) I E 11 [some (.ref 458), some (.int x1)] [.int (0 : Int32)] [] []) ok_X1_age rfl q_cn ?_
    cases hf
    exact q_kri ok_X1_age rfl rfl rfl (Nat.le_of_ble_eq_true rfl) (Nat.le_of_ble_eq_true rfl) ⟨rfl, q_hpe (q_fin [] rfl) (q_fin [] rfl)⟩
  · have hf := q_in h1 hf
    refine q_blf 2 [] (a := q_kc (t, r, m, z, N, ext, rx, L) I E 10 [some (.ref 458), some (.int x1)] [] [] []) (b := q_kc (t, r, m, z, N, ext, rx, L) I E 5 [some (.ref 458), some (.int x1)] [] [] []) (P := (128 : Int32) ≤ x1) ok_X1_age rfl q_cn (fun h2 => ?_) (fun h2 => ?_)
    · have hf := q_ip h2 hf
      refine q_blk 1 [] (c' := q_kc (t, r, m, z, N, ext, rx, L) I E 11 [some (.ref 458), some (.int x1)] [.int (0 : Int32)] [] []) ok_X1_age rfl q_cn ?_
      cases hf
      exact q_kri ok_X1_age rfl rfl rfl (Nat.le_of_ble_eq_true rfl) (Nat.le_of_ble_eq_true rfl) ⟨rfl, q_hpe (q_fin [] rfl) (q_fin [] rfl)⟩
    · have hf := q_in h2 hf
      obtain ⟨j3, hj3, hf⟩ := q_bd hf
      refine q_blk 5 [j3] (c' := q_kc (t, r, m, z, N, ext, rx, L) I E 11 [some (.ref 458), some (.int x1)] [.int ((I 462) j3)] [] []) ok_X1_age rfl (q_cc hj3 q_cn) ?_
      cases hf
      exact q_kri ok_X1_age rfl rfl rfl (Nat.le_of_ble_eq_true rfl) (Nat.le_of_ble_eq_true rfl) ⟨rfl, q_hpe (q_fin [] rfl) (q_fin [] rfl)⟩
set_option maxHeartbeats 4000000 in
theorem ct_X12_ageOf_400 {g : q_G} {t : Nat} {r : Nat} {m : Nat} {z : Nat} {N : Nat} {ext : Nat → q_Sh} {rx : Nat → Nat → Option Nat} {L : Nat → Nat → Int64} {d : Nat} (hd : 8 ≤ d)  {I : Nat → Nat → Int32} {E : Nat → Nat → Option Nat} {x1 : Int32} {r0 : (Int32 ⊕ String)} (hf : f_X12_ageOf (I 402) (I 462) (I 470) x1 = some r0) : q_Ct g m_X12_ageOf d 2 12 [] [.ref 400, .int x1] (q_hp (t, r, m, z, N, ext, rx, L) I E) (fun o h' => o = q_oI r0 ∧ h' = q_hp (t, r, m, z, N, ext, rx, L) (q_ws I []) (q_ws E [])) := by
  rw [f_X12_ageOf] at hf
  refine q_Ct_of ok_X12_ageOf (Nat.le_of_ble_eq_true rfl) ?_ _ rfl rfl
  change q_J g m_X12_ageOf d 2 12 _ [] _ 0 0 (q_kc (t, r, m, z, N, ext, rx, L) I E 0 [some (.ref 400), some (.int x1)] [] [] [])
  refine q_blk 5 [] (c' := q_kc (t, r, m, z, N, ext, rx, L) I E 5 [some (.ref 400), some (.int x1)] [.int x1, .ref 400, .ref 458] [] []) ok_X12_ageOf rfl q_cn ?_
  obtain ⟨r1, hr1, hf⟩ := q_bd hf
  cases hv4 : r1 with
  | inl v2 =>
    have hf := q_sm0 hv4 hf
    refine q_kV (M2 := m_X12_heldBale) (As := [.int x1]) (b := 400) (v2 := some (.int v2)) ok_X12_ageOf ok_X12_heldBale cv_X12_heldBale (ct_X12_heldBale_400 (d := 7) (Nat.le_refl _) hr1) (q_oIl hv4) rfl (Or.inl rfl) rfl rfl rfl rfl (Nat.le_trans (Nat.le_of_ble_eq_true rfl) hd) (Nat.le_of_ble_eq_true rfl) (Nat.le_of_ble_eq_true rfl) (Nat.le_of_ble_eq_true rfl) (fun x hx => absurd hx List.not_mem_nil) (q_nmL0 _) (q_nmS0 _) rfl (pos' := 6) (st' := [.int r5]) (lI' := []) (lE' := []) rfl rfl rfl rfl ?_
    obtain ⟨r5, hr5, hf⟩ := q_bd hf
    refine q_kV (M2 := m_X1_age) (As := [.int v2]) (b := 458) (v2 := some (.int r5)) ok_X12_ageOf ok_X1_age cv_X1_age (ct_X1_age_458 (d := 1) (Nat.le_refl _) hr5) rfl rfl (Or.inl rfl) rfl rfl rfl rfl (Nat.le_trans (Nat.le_of_ble_eq_true rfl) hd) (Nat.le_of_ble_eq_true rfl) (Nat.le_of_ble_eq_true rfl) (Nat.le_of_ble_eq_true rfl) (fun x hx => absurd hx List.not_mem_nil) (q_nmL0 _) (q_nmS0 _) rfl (pos' := 7) (st' := [.int r5]) (lI' := []) (lE' := []) rfl rfl rfl rfl ?_
    cases hf
    exact q_kri ok_X12_ageOf rfl rfl rfl (Nat.le_of_ble_eq_true rfl) (Nat.le_of_ble_eq_true rfl) ⟨rfl, q_hpe (q_fin [] rfl) (q_fin [] rfl)⟩
  | inr e3 =>
    have hf := q_sm1 hv4 hf
    cases hf
    refine q_kVx (M2 := m_X12_heldBale) (As := [.int x1]) (b := 400) ok_X12_ageOf ok_X12_heldBale cv_X12_heldBale (ct_X12_heldBale_400 (d := 7) (Nat.le_refl _) hr1) (q_oIr hv4) rfl (Or.inl rfl) rfl rfl rfl rfl (Nat.le_trans (Nat.le_of_ble_eq_true rfl) hd) (Nat.le_of_ble_eq_true rfl) (Nat.le_of_ble_eq_true rfl) (Nat.le_of_ble_eq_true rfl) (fun x hx => absurd hx List.not_mem_nil) (q_nmL0 _) (q_nmS0 _) rfl (lI' := []) (lE' := []) rfl rfl ⟨rfl, q_hpe (q_fin [] rfl) (q_fin [] rfl)⟩
set_option maxHeartbeats 4000000 in
theorem ct_X1_liesInLoft_458 {g : q_G} {t : Nat} {r : Nat} {m : Nat} {z : Nat} {N : Nat} {ext : Nat → q_Sh} {rx : Nat → Nat → Option Nat} {L : Nat → Nat → Int64} {d : Nat} (hd : 1 ≤ d)  {I : Nat → Nat → Int32} {E : Nat → Nat → Option Nat} {x1 : Int32} {r0 : Bool} (hf : f_X1_liesInLoft (I 459) x1 = some r0) : q_Ct g m_X1_liesInLoft d 0 0 [] [.ref 458, .int x1] (q_hp (t, r, m, z, N, ext, rx, L) I E) (fun o h' => o = .inl (some (.int (q_bz r0))) ∧ h' = q_hp (t, r, m, z, N, ext, rx, L) (q_ws I []) (q_ws E [])) := by
  rw [f_X1_liesInLoft] at hf
  refine q_Ct_of ok_X1_liesInLoft (Nat.le_of_ble_eq_true rfl) ?_ _ rfl rfl
  change q_J g m_X1_liesInLoft d 0 0 _ [] _ 0 0 (q_kc (t, r, m, z, N, ext, rx, L) I E 0 [some (.ref 458), some (.int x1)] [] [] [])
  refine q_blf 1 [] (a := q_kc (t, r, m, z, N, ext, rx, L) I E 13 [some (.ref 458), some (.int x1)] [] [] []) (b := q_kc (t, r, m, z, N, ext, rx, L) I E 2 [some (.ref 458), some (.int x1)] [] [] []) (P := x1 < 0) ok_X1_liesInLoft rfl q_cn (fun h1 => ?_) (fun h1 => ?_)
  · have hf := q_ip h1 hf
    refine q_blk 1 [] (c' := q_kc (t, r, m, z, N, ext, rx, L) I E 14 [some (.ref 458), some (.int x1)] [.int (0 : Int32)] [] []) ok_X1_liesInLoft rfl q_cn ?_
    cases hf
    exact q_kri ok_X1_liesInLoft rfl rfl rfl (Nat.le_of_ble_eq_true rfl) (Nat.le_of_ble_eq_true rfl) ⟨rfl, q_hpe (q_fin [] rfl) (q_fin [] rfl)⟩
  · have hf := q_in h1 hf
    refine q_blf 2 [] (a := q_kc (t, r, m, z, N, ext, rx, L) I E 13 [some (.ref 458), some (.int x1)] [] [] []) (b := q_kc (t, r, m, z, N, ext, rx, L) I E 5 [some (.ref 458), some (.int x1)] [] [] []) (P := (128 : Int32) ≤ x1) ok_X1_liesInLoft rfl q_cn (fun h2 => ?_) (fun h2 => ?_)
    · have hf := q_ip h2 hf
      refine q_blk 1 [] (c' := q_kc (t, r, m, z, N, ext, rx, L) I E 14 [some (.ref 458), some (.int x1)] [.int (0 : Int32)] [] []) ok_X1_liesInLoft rfl q_cn ?_
      cases hf
      exact q_kri ok_X1_liesInLoft rfl rfl rfl (Nat.le_of_ble_eq_true rfl) (Nat.le_of_ble_eq_true rfl) ⟨rfl, q_hpe (q_fin [] rfl) (q_fin [] rfl)⟩
    · have hf := q_in h2 hf
      obtain ⟨j3, hj3, hf⟩ := q_bd hf
      refine q_blf 5 [j3] (a := q_kc (t, r, m, z, N, ext, rx, L) I E 13 [some (.ref 458), some (.int x1)] [] [] []) (b := q_kc (t, r, m, z, N, ext, rx, L) I E 11 [some (.ref 458), some (.int x1)] [] [] []) (P := ¬ ((I 459) j3) = (2 : Int32)) ok_X1_liesInLoft rfl (q_cc hj3 q_cn) (fun h4 => ?_) (fun h4 => ?_)
      · have hf := q_ip h4 hf
        refine q_blk 1 [] (c' := q_kc (t, r, m, z, N, ext, rx, L) I E 14 [some (.ref 458), some (.int x1)] [.int (0 : Int32)] [] []) ok_X1_liesInLoft rfl q_cn ?_
        cases hf
        exact q_kri ok_X1_liesInLoft rfl rfl rfl (Nat.le_of_ble_eq_true rfl) (Nat.le_of_ble_eq_true rfl) ⟨rfl, q_hpe (q_fin [] rfl) (q_fin [] rfl)⟩
      · have hf := q_in h4 hf
        refine q_blk 2 [] (c' := q_kc (t, r, m, z, N, ext, rx, L) I E 14 [some (.ref 458), some (.int x1)] [.int (1 : Int32)] [] []) ok_X1_liesInLoft rfl q_cn ?_
        cases hf
        exact q_kri ok_X1_liesInLoft rfl rfl rfl (Nat.le_of_ble_eq_true rfl) (Nat.le_of_ble_eq_true rfl) ⟨rfl, q_hpe (q_fin [] rfl) (q_fin [] rfl)⟩
set_option maxHeartbeats 4000000 in
theorem ct_X12_isInLoft_400 {g : q_G} {t : Nat} {r : Nat} {m : Nat} {z : Nat} {N : Nat} {ext : Nat → q_Sh} {rx : Nat → Nat → Option Nat} {L : Nat → Nat → Int64} {d : Nat} (hd : 8 ≤ d)  {I : Nat → Nat → Int32} {E : Nat → Nat → Option Nat} {x1 : Int32} {r0 : (Bool ⊕ String)} (hf : f_X12_isInLoft (I 402) (I 459) (I 470) x1 = some r0) : q_Ct g m_X12_isInLoft d 2 12 [] [.ref 400, .int x1] (q_hp (t, r, m, z, N, ext, rx, L) I E) (fun o h' => o = q_oZ r0 ∧ h' = q_hp (t, r, m, z, N, ext, rx, L) (q_ws I []) (q_ws E [])) := by
  rw [f_X12_isInLoft] at hf
  refine q_Ct_of ok_X12_isInLoft (Nat.le_of_ble_eq_true rfl) ?_ _ rfl rfl
  change q_J g m_X12_isInLoft d 2 12 _ [] _ 0 0 (q_kc (t, r, m, z, N, ext, rx, L) I E 0 [some (.ref 400), some (.int x1)] [] [] [])
  refine q_blk 5 [] (c' := q_kc (t, r, m, z, N, ext, rx, L) I E 5 [some (.ref 400), some (.int x1)] [.int x1, .ref 400, .ref 458] [] []) ok_X12_isInLoft rfl q_cn ?_
  obtain ⟨r1, hr1, hf⟩ := q_bd hf
  cases hv4 : r1 with
  | inl v2 =>
    have hf := q_sm0 hv4 hf
    refine q_kV (M2 := m_X12_heldBale) (As := [.int x1]) (b := 400) (v2 := some (.int v2)) ok_X12_isInLoft ok_X12_heldBale cv_X12_heldBale (ct_X12_heldBale_400 (d := 7) (Nat.le_refl _) hr1) (q_oIl hv4) rfl (Or.inl rfl) rfl rfl rfl rfl (Nat.le_trans (Nat.le_of_ble_eq_true rfl) hd) (Nat.le_of_ble_eq_true rfl) (Nat.le_of_ble_eq_true rfl) (Nat.le_of_ble_eq_true rfl) (fun x hx => absurd hx List.not_mem_nil) (q_nmL0 _) (q_nmS0 _) rfl (pos' := 6) (st' := [.int (q_bz r5)]) (lI' := []) (lE' := []) rfl rfl rfl rfl ?_
    obtain ⟨r5, hr5, hf⟩ := q_bd hf
    refine q_kV (M2 := m_X1_liesInLoft) (As := [.int v2]) (b := 458) (v2 := some (.int (q_bz r5))) ok_X12_isInLoft ok_X1_liesInLoft cv_X1_liesInLoft (ct_X1_liesInLoft_458 (d := 1) (Nat.le_refl _) hr5) rfl rfl (Or.inl rfl) rfl rfl rfl rfl (Nat.le_trans (Nat.le_of_ble_eq_true rfl) hd) (Nat.le_of_ble_eq_true rfl) (Nat.le_of_ble_eq_true rfl) (Nat.le_of_ble_eq_true rfl) (fun x hx => absurd hx List.not_mem_nil) (q_nmL0 _) (q_nmS0 _) rfl (pos' := 7) (st' := [.int (q_bz r5)]) (lI' := []) (lE' := []) rfl rfl rfl rfl ?_
    cases hf
    exact q_kri ok_X12_isInLoft rfl rfl (q_bz_nr _) (Nat.le_of_ble_eq_true rfl) (Nat.le_of_ble_eq_true rfl) ⟨rfl, q_hpe (q_fin [] rfl) (q_fin [] rfl)⟩
  | inr e3 =>
    have hf := q_sm1 hv4 hf
    cases hf
    refine q_kVx (M2 := m_X12_heldBale) (As := [.int x1]) (b := 400) ok_X12_isInLoft ok_X12_heldBale cv_X12_heldBale (ct_X12_heldBale_400 (d := 7) (Nat.le_refl _) hr1) (q_oIr hv4) rfl (Or.inl rfl) rfl rfl rfl rfl (Nat.le_trans (Nat.le_of_ble_eq_true rfl) hd) (Nat.le_of_ble_eq_true rfl) (Nat.le_of_ble_eq_true rfl) (Nat.le_of_ble_eq_true rfl) (fun x hx => absurd hx List.not_mem_nil) (q_nmL0 _) (q_nmS0 _) rfl (lI' := []) (lE' := []) rfl rfl ⟨rfl, q_hpe (q_fin [] rfl) (q_fin [] rfl)⟩
set_option maxHeartbeats 4000000 in
theorem ct_X12_ropeLeads_400 {g : q_G} {t : Nat} {r : Nat} {m : Nat} {z : Nat} {N : Nat} {ext : Nat → q_Sh} {rx : Nat → Nat → Option Nat} {L : Nat → Nat → Int64} {d : Nat} (hd : 8 ≤ d)  {I : Nat → Nat → Int32} {E : Nat → Nat → Option Nat} {x1 : Int32} {x2 : Int32} {r0 : (Bool ⊕ String)} (hf : f_X12_ropeLeads (I 402) (I 463) (I 464) (I 470) x1 x2 = some r0) : q_Ct g m_X12_ropeLeads d 3 18 [] [.ref 400, .int x1, .int x2] (q_hp (t, r, m, z, N, ext, rx, L) I E) (fun o h' => o = q_oZ r0 ∧ h' = q_hp (t, r, m, z, N, ext, rx, L) (q_ws I []) (q_ws E [])) := by
  rw [f_X12_ropeLeads] at hf
  refine q_Ct_of ok_X12_ropeLeads (Nat.le_of_ble_eq_true rfl) ?_ _ rfl rfl
  change q_J g m_X12_ropeLeads d 3 18 _ [] _ 0 0 (q_kc (t, r, m, z, N, ext, rx, L) I E 0 [some (.ref 400), some (.int x1), some (.int x2), none] [] [] [])
  refine q_blk 2 [] (c' := q_kc (t, r, m, z, N, ext, rx, L) I E 2 [some (.ref 400), some (.int x1), some (.int x2), none] [.int x1, .ref 400] [] []) ok_X12_ropeLeads rfl q_cn ?_
  obtain ⟨r1, hr1, hf⟩ := q_bd hf
  cases hv4 : r1 with
  | inl v2 =>
    have hf := q_sm0 hv4 hf
    refine q_kV (M2 := m_X12_heldBale) (As := [.int x1]) (b := 400) (v2 := some (.int v2)) ok_X12_ropeLeads ok_X12_heldBale cv_X12_heldBale (ct_X12_heldBale_400 (d := 7) (Nat.le_refl _) hr1) (q_oIl hv4) rfl (Or.inl rfl) rfl rfl rfl rfl (Nat.le_trans (Nat.le_of_ble_eq_true rfl) hd) (Nat.le_of_ble_eq_true rfl) (Nat.le_of_ble_eq_true rfl) (Nat.le_of_ble_eq_true rfl) (fun x hx => absurd hx List.not_mem_nil) (q_nmL0 _) (q_nmS0 _) rfl (pos' := 3) (st' := []) (lI' := []) (lE' := []) rfl rfl rfl rfl ?_
    refine q_blk 6 [] (c' := q_kc (t, r, m, z, N, ext, rx, L) I E 9 [some (.ref 400), some (.int x1), some (.int x2), some (.int v2)] [.int x2, .int v2, .ref 458] [] []) ok_X12_ropeLeads rfl q_cn ?_
    obtain ⟨r5, hr5, hf⟩ := q_bd hf
    refine q_kV (M2 := m_X1_hasRope) (As := [.int v2, .int x2]) (b := 458) (v2 := some (.int (q_bz r5))) ok_X12_ropeLeads ok_X1_hasRope cv_X1_hasRope (ct_X1_hasRope_458 (d := 1) (Nat.le_refl _) hr5) rfl rfl (Or.inl rfl) rfl rfl rfl rfl (Nat.le_trans (Nat.le_of_ble_eq_true rfl) hd) (Nat.le_of_ble_eq_true rfl) (Nat.le_of_ble_eq_true rfl) (Nat.le_of_ble_eq_true rfl) (fun x hx => absurd hx List.not_mem_nil) (q_nmL0 _) (q_nmS0 _) rfl (pos' := 10) (st' := [.int (q_bz r5)]) (lI' := []) (lE' := []) rfl rfl rfl rfl ?_
    refine q_blf 0 [] (a := q_kc (t, r, m, z, N, ext, rx, L) I E 16 [some (.ref 400), some (.int x1), some (.int x2), some (.int v2)] [] [] []) (b := q_kc (t, r, m, z, N, ext, rx, L) I E 11 [some (.ref 400), some (.int x1), some (.int x2), some (.int v2)] [] [] []) (P := ¬ (q_bz r5) = 0) ok_X12_ropeLeads rfl q_cn (fun h6 => ?_) (fun h6 => ?_)
    · have hf := q_ip h6 hf
      refine q_blk 5 [] (c' := q_kc (t, r, m, z, N, ext, rx, L) I E 21 [some (.ref 400), some (.int x1), some (.int x2), some (.int v2)] [.int x2, .int v2, .ref 458] [] []) ok_X12_ropeLeads rfl q_cn ?_
      obtain ⟨r7, hr7, hf⟩ := q_bd hf
      refine q_kV (M2 := m_X1_lead) (As := [.int v2, .int x2]) (b := 458) (v2 := some (.int r7)) ok_X12_ropeLeads ok_X1_lead cv_X1_lead (ct_X1_lead_458 (d := 2) (Nat.le_refl _) hr7) rfl rfl (Or.inl rfl) rfl rfl rfl rfl (Nat.le_trans (Nat.le_of_ble_eq_true rfl) hd) (Nat.le_of_ble_eq_true rfl) (Nat.le_of_ble_eq_true rfl) (Nat.le_of_ble_eq_true rfl) (fun x hx => absurd hx List.not_mem_nil) (q_nmL0 _) (q_nmS0 _) rfl (pos' := 22) (st' := [.int r7]) (lI' := []) (lE' := []) rfl rfl rfl rfl ?_
      refine q_blf 1 [] (a := q_kc (t, r, m, z, N, ext, rx, L) I E 26 [some (.ref 400), some (.int x1), some (.int x2), some (.int v2)] [] [] []) (b := q_kc (t, r, m, z, N, ext, rx, L) I E 24 [some (.ref 400), some (.int x1), some (.int x2), some (.int v2)] [] [] []) (P := r7 = (-1 : Int32)) ok_X12_ropeLeads rfl q_cn (fun h8 => ?_) (fun h8 => ?_)
      · have hf := q_ip h8 hf
        refine q_blk 1 [] (c' := q_kc (t, r, m, z, N, ext, rx, L) I E 27 [some (.ref 400), some (.int x1), some (.int x2), some (.int v2)] [.int (0 : Int32)] [] []) ok_X12_ropeLeads rfl q_cn ?_
        cases hf
        exact q_kri ok_X12_ropeLeads rfl rfl rfl (Nat.le_of_ble_eq_true rfl) (Nat.le_of_ble_eq_true rfl) ⟨rfl, q_hpe (q_fin [] rfl) (q_fin [] rfl)⟩
      · have hf := q_in h8 hf
        refine q_blk 2 [] (c' := q_kc (t, r, m, z, N, ext, rx, L) I E 27 [some (.ref 400), some (.int x1), some (.int x2), some (.int v2)] [.int (1 : Int32)] [] []) ok_X12_ropeLeads rfl q_cn ?_
        cases hf
        exact q_kri ok_X12_ropeLeads rfl rfl rfl (Nat.le_of_ble_eq_true rfl) (Nat.le_of_ble_eq_true rfl) ⟨rfl, q_hpe (q_fin [] rfl) (q_fin [] rfl)⟩
    · have hf := q_in h6 hf
      cases hf
      exact q_o_throwS ok_X12_ropeLeads rfl rfl rfl rfl rfl rfl q_inISE (by decide +kernel) (by decide +kernel) q_fitISE q_fits (Nat.le_trans (Nat.le_of_ble_eq_true rfl) hd) (Nat.le_of_ble_eq_true rfl) (Nat.le_of_ble_eq_true rfl) (Nat.le_of_ble_eq_true rfl) ⟨rfl, q_hpe (q_fin [] rfl) (q_fin [] rfl)⟩
  | inr e3 =>
    have hf := q_sm1 hv4 hf
    cases hf
    refine q_kVx (M2 := m_X12_heldBale) (As := [.int x1]) (b := 400) ok_X12_ropeLeads ok_X12_heldBale cv_X12_heldBale (ct_X12_heldBale_400 (d := 7) (Nat.le_refl _) hr1) (q_oIr hv4) rfl (Or.inl rfl) rfl rfl rfl rfl (Nat.le_trans (Nat.le_of_ble_eq_true rfl) hd) (Nat.le_of_ble_eq_true rfl) (Nat.le_of_ble_eq_true rfl) (Nat.le_of_ble_eq_true rfl) (fun x hx => absurd hx List.not_mem_nil) (q_nmL0 _) (q_nmS0 _) rfl (lI' := []) (lE' := []) rfl rfl ⟨rfl, q_hpe (q_fin [] rfl) (q_fin [] rfl)⟩
set_option maxHeartbeats 4000000 in
theorem ct_X2_sameHeld_457 {g : q_G} {t : Nat} {r : Nat} {m : Nat} {z : Nat} {N : Nat} {ext : Nat → q_Sh} {rx : Nat → Nat → Option Nat} {L : Nat → Nat → Int64} {d : Nat} (hd : 1 ≤ d)  {I : Nat → Nat → Int32} {E : Nat → Nat → Option Nat} {x1 : Int32} {x2 : Int32} {r0 : Bool} (hf : f_X2_sameHeld (I 470) x1 x2 = some r0) : q_Ct g m_X2_sameHeld d 0 0 [] [.ref 457, .int x1, .int x2] (q_hp (t, r, m, z, N, ext, rx, L) I E) (fun o h' => o = .inl (some (.int (q_bz r0))) ∧ h' = q_hp (t, r, m, z, N, ext, rx, L) (q_ws I []) (q_ws E [])) := by
  rw [f_X2_sameHeld] at hf
  refine q_Ct_of ok_X2_sameHeld (Nat.le_of_ble_eq_true rfl) ?_ _ rfl rfl
  change q_J g m_X2_sameHeld d 0 0 _ [] _ 0 0 (q_kc (t, r, m, z, N, ext, rx, L) I E 0 [some (.ref 457), some (.int x1), some (.int x2)] [] [] [])
  refine q_blf 1 [] (a := q_kc (t, r, m, z, N, ext, rx, L) I E 27 [some (.ref 457), some (.int x1), some (.int x2)] [] [] []) (b := q_kc (t, r, m, z, N, ext, rx, L) I E 2 [some (.ref 457), some (.int x1), some (.int x2)] [] [] []) (P := x1 < 0) ok_X2_sameHeld rfl q_cn (fun h1 => ?_) (fun h1 => ?_)
  · have hf := q_ip h1 hf
    refine q_blk 1 [] (c' := q_kc (t, r, m, z, N, ext, rx, L) I E 28 [some (.ref 457), some (.int x1), some (.int x2)] [.int (0 : Int32)] [] []) ok_X2_sameHeld rfl q_cn ?_
    cases hf
    exact q_kri ok_X2_sameHeld rfl rfl rfl (Nat.le_of_ble_eq_true rfl) (Nat.le_of_ble_eq_true rfl) ⟨rfl, q_hpe (q_fin [] rfl) (q_fin [] rfl)⟩
  · have hf := q_in h1 hf
    refine q_blf 2 [] (a := q_kc (t, r, m, z, N, ext, rx, L) I E 27 [some (.ref 457), some (.int x1), some (.int x2)] [] [] []) (b := q_kc (t, r, m, z, N, ext, rx, L) I E 5 [some (.ref 457), some (.int x1), some (.int x2)] [] [] []) (P := (6 : Int32) ≤ x1) ok_X2_sameHeld rfl q_cn (fun h2 => ?_) (fun h2 => ?_)
    · have hf := q_ip h2 hf
      refine q_blk 1 [] (c' := q_kc (t, r, m, z, N, ext, rx, L) I E 28 [some (.ref 457), some (.int x1), some (.int x2)] [.int (0 : Int32)] [] []) ok_X2_sameHeld rfl q_cn ?_
      cases hf
      exact q_kri ok_X2_sameHeld rfl rfl rfl (Nat.le_of_ble_eq_true rfl) (Nat.le_of_ble_eq_true rfl) ⟨rfl, q_hpe (q_fin [] rfl) (q_fin [] rfl)⟩
    · have hf := q_in h2 hf
      refine q_blf 1 [] (a := q_kc (t, r, m, z, N, ext, rx, L) I E 27 [some (.ref 457), some (.int x1), some (.int x2)] [] [] []) (b := q_kc (t, r, m, z, N, ext, rx, L) I E 7 [some (.ref 457), some (.int x1), some (.int x2)] [] [] []) (P := x2 < 0) ok_X2_sameHeld rfl q_cn (fun h3 => ?_) (fun h3 => ?_)
      · have hf := q_ip h3 hf
        refine q_blk 1 [] (c' := q_kc (t, r, m, z, N, ext, rx, L) I E 28 [some (.ref 457), some (.int x1), some (.int x2)] [.int (0 : Int32)] [] []) ok_X2_sameHeld rfl q_cn ?_
        cases hf
        exact q_kri ok_X2_sameHeld rfl rfl rfl (Nat.le_of_ble_eq_true rfl) (Nat.le_of_ble_eq_true rfl) ⟨rfl, q_hpe (q_fin [] rfl) (q_fin [] rfl)⟩
      · have hf := q_in h3 hf
        refine q_blf 2 [] (a := q_kc (t, r, m, z, N, ext, rx, L) I E 27 [some (.ref 457), some (.int x1), some (.int x2)] [] [] []) (b := q_kc (t, r, m, z, N, ext, rx, L) I E 10 [some (.ref 457), some (.int x1), some (.int x2)] [] [] []) (P := (6 : Int32) ≤ x2) ok_X2_sameHeld rfl q_cn (fun h4 => ?_) (fun h4 => ?_)
        · have hf := q_ip h4 hf
          refine q_blk 1 [] (c' := q_kc (t, r, m, z, N, ext, rx, L) I E 28 [some (.ref 457), some (.int x1), some (.int x2)] [.int (0 : Int32)] [] []) ok_X2_sameHeld rfl q_cn ?_
          cases hf
          exact q_kri ok_X2_sameHeld rfl rfl rfl (Nat.le_of_ble_eq_true rfl) (Nat.le_of_ble_eq_true rfl) ⟨rfl, q_hpe (q_fin [] rfl) (q_fin [] rfl)⟩
        · have hf := q_in h4 hf
          obtain ⟨j5, hj5, hf⟩ := q_bd hf
          refine q_blf 5 [j5] (a := q_kc (t, r, m, z, N, ext, rx, L) I E 27 [some (.ref 457), some (.int x1), some (.int x2)] [] [] []) (b := q_kc (t, r, m, z, N, ext, rx, L) I E 16 [some (.ref 457), some (.int x1), some (.int x2)] [] [] []) (P := ((I 470) j5) = (-1 : Int32)) ok_X2_sameHeld rfl (q_cc hj5 q_cn) (fun h6 => ?_) (fun h6 => ?_)
          · have hf := q_ip h6 hf
            refine q_blk 1 [] (c' := q_kc (t, r, m, z, N, ext, rx, L) I E 28 [some (.ref 457), some (.int x1), some (.int x2)] [.int (0 : Int32)] [] []) ok_X2_sameHeld rfl q_cn ?_
            cases hf
            exact q_kri ok_X2_sameHeld rfl rfl rfl (Nat.le_of_ble_eq_true rfl) (Nat.le_of_ble_eq_true rfl) ⟨rfl, q_hpe (q_fin [] rfl) (q_fin [] rfl)⟩
          · have hf := q_in h6 hf
            obtain ⟨j7, hj7, hf⟩ := q_bd hf
            obtain ⟨j8, hj8, hf⟩ := q_bd hf
            refine q_blf 8 [j7, j8] (a := q_kc (t, r, m, z, N, ext, rx, L) I E 27 [some (.ref 457), some (.int x1), some (.int x2)] [] [] []) (b := q_kc (t, r, m, z, N, ext, rx, L) I E 25 [some (.ref 457), some (.int x1), some (.int x2)] [] [] []) (P := ¬ ((I 470) j7) = ((I 470) j8)) ok_X2_sameHeld rfl (q_cc hj8 (q_cc hj7 q_cn)) (fun h9 => ?_) (fun h9 => ?_)
            · have hf := q_ip h9 hf
              refine q_blk 1 [] (c' := q_kc (t, r, m, z, N, ext, rx, L) I E 28 [some (.ref 457), some (.int x1), some (.int x2)] [.int (0 : Int32)] [] []) ok_X2_sameHeld rfl q_cn ?_
              cases hf
              exact q_kri ok_X2_sameHeld rfl rfl rfl (Nat.le_of_ble_eq_true rfl) (Nat.le_of_ble_eq_true rfl) ⟨rfl, q_hpe (q_fin [] rfl) (q_fin [] rfl)⟩
            · have hf := q_in h9 hf
              refine q_blk 2 [] (c' := q_kc (t, r, m, z, N, ext, rx, L) I E 28 [some (.ref 457), some (.int x1), some (.int x2)] [.int (1 : Int32)] [] []) ok_X2_sameHeld rfl q_cn ?_
              cases hf
              exact q_kri ok_X2_sameHeld rfl rfl rfl (Nat.le_of_ble_eq_true rfl) (Nat.le_of_ble_eq_true rfl) ⟨rfl, q_hpe (q_fin [] rfl) (q_fin [] rfl)⟩
set_option maxHeartbeats 4000000 in
theorem ct_X12_holdSame_400 {g : q_G} {t : Nat} {r : Nat} {m : Nat} {z : Nat} {N : Nat} {ext : Nat → q_Sh} {rx : Nat → Nat → Option Nat} {L : Nat → Nat → Int64} {d : Nat} (hd : 7 ≤ d)  {I : Nat → Nat → Int32} {E : Nat → Nat → Option Nat} {x1 : Int32} {x2 : Int32} {r0 : (Bool ⊕ String)} (hf : f_X12_holdSame (I 402) (I 470) x1 x2 = some r0) : q_Ct g m_X12_holdSame d 2 12 [] [.ref 400, .int x1, .int x2] (q_hp (t, r, m, z, N, ext, rx, L) I E) (fun o h' => o = q_oZ r0 ∧ h' = q_hp (t, r, m, z, N, ext, rx, L) (q_ws I []) (q_ws E [])) := by
  rw [f_X12_holdSame] at hf
  refine q_Ct_of ok_X12_holdSame (Nat.le_of_ble_eq_true rfl) ?_ _ rfl rfl
  change q_J g m_X12_holdSame d 2 12 _ [] _ 0 0 (q_kc (t, r, m, z, N, ext, rx, L) I E 0 [some (.ref 400), some (.int x1), some (.int x2)] [] [] [])
  refine q_blk 2 [] (c' := q_kc (t, r, m, z, N, ext, rx, L) I E 2 [some (.ref 400), some (.int x1), some (.int x2)] [.int x1, .ref 400] [] []) ok_X12_holdSame rfl q_cn ?_
  obtain ⟨r1, hr1, hf⟩ := q_bd hf
  cases hv4 : r1 with
  | inl v2 =>
    have hf := q_sm0 hv4 hf
    refine q_kV (M2 := m_X12_checkHook) (As := [.int x1]) (b := 400) (v2 := none) ok_X12_holdSame ok_X12_checkHook cv_X12_checkHook (ct_X12_checkHook_400 (d := 6) (Nat.le_refl _) hr1) (q_oVl hv4) rfl (Or.inl rfl) rfl rfl rfl rfl (Nat.le_trans (Nat.le_of_ble_eq_true rfl) hd) (Nat.le_of_ble_eq_true rfl) (Nat.le_of_ble_eq_true rfl) (Nat.le_of_ble_eq_true rfl) (fun x hx => absurd hx List.not_mem_nil) (q_nmL0 _) (q_nmS0 _) rfl (pos' := 3) (st' := []) (lI' := []) (lE' := []) rfl rfl rfl rfl ?_
    refine q_blk 2 [] (c' := q_kc (t, r, m, z, N, ext, rx, L) I E 5 [some (.ref 400), some (.int x1), some (.int x2)] [.int x2, .ref 400] [] []) ok_X12_holdSame rfl q_cn ?_
    obtain ⟨r5, hr5, hf⟩ := q_bd hf
    cases hv8 : r5 with
    | inl v6 =>
      have hf := q_sm0 hv8 hf
      refine q_kV (M2 := m_X12_checkHook) (As := [.int x2]) (b := 400) (v2 := none) ok_X12_holdSame ok_X12_checkHook cv_X12_checkHook (ct_X12_checkHook_400 (d := 6) (Nat.le_refl _) hr5) (q_oVl hv8) rfl (Or.inl rfl) rfl rfl rfl rfl (Nat.le_trans (Nat.le_of_ble_eq_true rfl) hd) (Nat.le_of_ble_eq_true rfl) (Nat.le_of_ble_eq_true rfl) (Nat.le_of_ble_eq_true rfl) (fun x hx => absurd hx List.not_mem_nil) (q_nmL0 _) (q_nmS0 _) rfl (pos' := 6) (st' := [.int (q_bz r9)]) (lI' := []) (lE' := []) rfl rfl rfl rfl ?_
      refine q_blk 4 [] (c' := q_kc (t, r, m, z, N, ext, rx, L) I E 10 [some (.ref 400), some (.int x1), some (.int x2)] [.int x2, .int x1, .ref 457] [] []) ok_X12_holdSame rfl q_cn ?_
      obtain ⟨r9, hr9, hf⟩ := q_bd hf
      refine q_kV (M2 := m_X2_sameHeld) (As := [.int x1, .int x2]) (b := 457) (v2 := some (.int (q_bz r9))) ok_X12_holdSame ok_X2_sameHeld cv_X2_sameHeld (ct_X2_sameHeld_457 (d := 1) (Nat.le_refl _) hr9) rfl rfl (Or.inl rfl) rfl rfl rfl rfl (Nat.le_trans (Nat.le_of_ble_eq_true rfl) hd) (Nat.le_of_ble_eq_true rfl) (Nat.le_of_ble_eq_true rfl) (Nat.le_of_ble_eq_true rfl) (fun x hx => absurd hx List.not_mem_nil) (q_nmL0 _) (q_nmS0 _) rfl (pos' := 11) (st' := [.int (q_bz r9)]) (lI' := []) (lE' := []) rfl rfl rfl rfl ?_
      cases hf
      exact q_kri ok_X12_holdSame rfl rfl (q_bz_nr _) (Nat.le_of_ble_eq_true rfl) (Nat.le_of_ble_eq_true rfl) ⟨rfl, q_hpe (q_fin [] rfl) (q_fin [] rfl)⟩
    | inr e7 =>
      have hf := q_sm1 hv8 hf
      cases hf
      refine q_kVx (M2 := m_X12_checkHook) (As := [.int x2]) (b := 400) ok_X12_holdSame ok_X12_checkHook cv_X12_checkHook (ct_X12_checkHook_400 (d := 6) (Nat.le_refl _) hr5) (q_oVr hv8) rfl (Or.inl rfl) rfl rfl rfl rfl (Nat.le_trans (Nat.le_of_ble_eq_true rfl) hd) (Nat.le_of_ble_eq_true rfl) (Nat.le_of_ble_eq_true rfl) (Nat.le_of_ble_eq_true rfl) (fun x hx => absurd hx List.not_mem_nil) (q_nmL0 _) (q_nmS0 _) rfl (lI' := []) (lE' := []) rfl rfl ⟨rfl, q_hpe (q_fin [] rfl) (q_fin [] rfl)⟩
  | inr e3 =>
    have hf := q_sm1 hv4 hf
    cases hf
    refine q_kVx (M2 := m_X12_checkHook) (As := [.int x1]) (b := 400) ok_X12_holdSame ok_X12_checkHook cv_X12_checkHook (ct_X12_checkHook_400 (d := 6) (Nat.le_refl _) hr1) (q_oVr hv4) rfl (Or.inl rfl) rfl rfl rfl rfl (Nat.le_trans (Nat.le_of_ble_eq_true rfl) hd) (Nat.le_of_ble_eq_true rfl) (Nat.le_of_ble_eq_true rfl) (Nat.le_of_ble_eq_true rfl) (fun x hx => absurd hx List.not_mem_nil) (q_nmL0 _) (q_nmS0 _) rfl (lI' := []) (lE' := []) rfl rfl ⟨rfl, q_hpe (q_fin [] rfl) (q_fin [] rfl)⟩
set_option maxHeartbeats 4000000 in
theorem ct_X2_ropesAway_457 {g : q_G} {t : Nat} {r : Nat} {m : Nat} {z : Nat} {N : Nat} {ext : Nat → q_Sh} {rx : Nat → Nat → Option Nat} {L : Nat → Nat → Int64} {d : Nat} (hd : 4 ≤ d)  {I : Nat → Nat → Int32} {E : Nat → Nat → Option Nat} {x1 : Int32} {x2 : Int32} {r0 : Int32 × (Nat → Int32) × (Nat → Int32) × (Nat → Int32)} (hf : f_X2_ropesAway (I 463) (I 464) (I 467) (I 468) (I 469) x1 x2 = some r0) : q_Ct g m_X2_ropesAway d 0 0 [] [.ref 457, .int x1, .int x2] (q_hp (t, r, m, z, N, ext, rx, L) I E) (fun o h' => o = .inl (some (.int r0.1)) ∧ h' = q_hp (t, r, m, z, N, ext, rx, L) (q_ws I [(467, r0.2.1), (468, r0.2.2.1), (469, r0.2.2.2)]) (q_ws E [])) := by
  rw [f_X2_ropesAway] at hf
  refine q_Ct_of ok_X2_ropesAway (Nat.le_of_ble_eq_true rfl) ?_ _ rfl rfl
  change q_J g m_X2_ropesAway d 0 0 _ [] _ 0 0 (q_kc (t, r, m, z, N, ext, rx, L) I E 0 [some (.ref 457), some (.int x1), some (.int x2)] [] [] [])
  refine q_blk 2 [] (c' := q_kc (t, r, m, z, N, ext, rx, L) I E 2 [some (.ref 457), some (.int x1), some (.int x2)] [.ref 467] [] []) ok_X2_ropesAway rfl q_cn ?_
  obtain ⟨r1, hr1, hf⟩ := q_bd hf
  refine q_kV (M2 := m_X4_clear) (As := []) (b := 467) (v2 := none) ok_X2_ropesAway ok_X4_clear cv_X4_clear (ct_X4_clear_467 (d := 2) (Nat.le_refl _) hr1) rfl rfl (Or.inl rfl) rfl rfl rfl rfl (Nat.le_trans (Nat.le_of_ble_eq_true rfl) hd) (Nat.le_of_ble_eq_true rfl) (Nat.le_of_ble_eq_true rfl) (Nat.le_of_ble_eq_true rfl) (fun x hx => absurd hx List.not_mem_nil) (q_nmL0 _) (q_nmS0 _) rfl (pos' := 3) (st' := []) (lI' := [(467, r1.1), (469, r1.2)]) (lE' := []) rfl rfl rfl rfl ?_
  refine q_blk 4 [] (c' := q_kc (t, r, m, z, N, ext, rx, L) I E 7 [some (.ref 457), some (.int x1), some (.int x2)] [.int (0 : Int32), .int x1, .ref 467] [(467, r1.1), (469, r1.2)] []) ok_X2_ropesAway rfl q_cn ?_
  obtain ⟨r2, hr2, hf⟩ := q_bd hf
  refine q_kV (M2 := m_X4_add) (As := [.int x1, .int (0 : Int32)]) (b := 467) (v2 := some (.int (q_bz r2.1))) ok_X2_ropesAway ok_X4_add cv_X4_add (ct_X4_add_467 (d := 1) (Nat.le_refl _) hr2) rfl rfl (Or.inl rfl) rfl rfl rfl rfl (Nat.le_trans (Nat.le_of_ble_eq_true rfl) hd) (Nat.le_of_ble_eq_true rfl) (Nat.le_of_ble_eq_true rfl) (Nat.le_of_ble_eq_true rfl) (fun x hx => absurd hx List.not_mem_nil) (q_nmL0 _) (q_nmS0 _) rfl (pos' := 8) (st' := [.int (q_bz r2.1)]) (lI' := [(467, r2.2.1), (468, r2.2.2.1), (469, r2.2.2.2)]) (lE' := []) rfl rfl rfl rfl ?_
  refine q_blk 2 [] (c' := q_kc (t, r, m, z, N, ext, rx, L) I E 10 [some (.ref 457), some (.int x1), some (.int x2)] [.ref 457] [(467, r2.2.1), (468, r2.2.2.1), (469, r2.2.2.2)] []) ok_X2_ropesAway rfl q_cn ?_
  obtain ⟨r3, hr3, hf⟩ := q_bd hf
  refine q_kV (M2 := m_X2_followLine) (As := []) (b := 457) (v2 := none) ok_X2_ropesAway ok_X2_followLine cv_X2_followLine (ct_X2_followLine_457 (d := 3) (Nat.le_refl _) hr3) rfl rfl (Or.inl rfl) rfl rfl rfl rfl (Nat.le_trans (Nat.le_of_ble_eq_true rfl) hd) (Nat.le_of_ble_eq_true rfl) (Nat.le_of_ble_eq_true rfl) (Nat.le_of_ble_eq_true rfl) (fun x hx => absurd hx List.not_mem_nil) (q_nmL0 _) (q_nmS0 _) rfl (pos' := 11) (st' := []) (lI' := [(467, r3.1), (468, r3.2.1), (469, r3.2.2)]) (lE' := []) rfl rfl rfl rfl ?_
  refine q_blk 3 [] (c' := q_kc (t, r, m, z, N, ext, rx, L) I E 14 [some (.ref 457), some (.int x1), some (.int x2)] [.int x2, .ref 467] [(467, r3.1), (468, r3.2.1), (469, r3.2.2)] []) ok_X2_ropesAway rfl q_cn ?_
  obtain ⟨r4, hr4, hf⟩ := q_bd hf
  refine q_kV (M2 := m_X4_ropesTo) (As := [.int x2]) (b := 467) (v2 := some (.int r4)) ok_X2_ropesAway ok_X4_ropesTo cv_X4_ropesTo (ct_X4_ropesTo_467 (d := 1) (Nat.le_refl _) hr4) rfl rfl (Or.inl rfl) rfl rfl rfl rfl (Nat.le_trans (Nat.le_of_ble_eq_true rfl) hd) (Nat.le_of_ble_eq_true rfl) (Nat.le_of_ble_eq_true rfl) (Nat.le_of_ble_eq_true rfl) (fun x hx => absurd hx List.not_mem_nil) (q_nmL0 _) (q_nmS0 _) rfl (pos' := 15) (st' := [.int r4]) (lI' := [(467, r3.1), (468, r3.2.1), (469, r3.2.2)]) (lE' := []) rfl rfl rfl rfl ?_
  cases hf
  exact q_kri ok_X2_ropesAway rfl rfl rfl (Nat.le_of_ble_eq_true rfl) (Nat.le_of_ble_eq_true rfl) ⟨rfl, q_hpe (q_fin [467, 468, 469] rfl) (q_fin [] rfl)⟩
set_option maxHeartbeats 4000000 in
theorem ct_X12_ropesBetween_400 {g : q_G} {t : Nat} {r : Nat} {m : Nat} {z : Nat} {N : Nat} {ext : Nat → q_Sh} {rx : Nat → Nat → Option Nat} {L : Nat → Nat → Int64} {d : Nat} (hd : 8 ≤ d)  {I : Nat → Nat → Int32} {E : Nat → Nat → Option Nat} {x1 : Int32} {x2 : Int32} {r0 : (Int32 ⊕ String) × (Nat → Int32) × (Nat → Int32) × (Nat → Int32)} (hf : f_X12_ropesBetween (I 402) (I 463) (I 464) (I 467) (I 468) (I 469) (I 470) x1 x2 = some r0) : q_Ct g m_X12_ropesBetween d 6 36 [] [.ref 400, .int x1, .int x2] (q_hp (t, r, m, z, N, ext, rx, L) I E) (fun o h' => o = q_oI r0.1 ∧ h' = q_hp (t, r, m, z, N, ext, rx, L) (q_ws I [(467, r0.2.1), (468, r0.2.2.1), (469, r0.2.2.2)]) (q_ws E [])) := by
  rw [f_X12_ropesBetween] at hf
  refine q_Ct_of ok_X12_ropesBetween (Nat.le_of_ble_eq_true rfl) ?_ _ rfl rfl
  change q_J g m_X12_ropesBetween d 6 36 _ [] _ 0 0 (q_kc (t, r, m, z, N, ext, rx, L) I E 0 [some (.ref 400), some (.int x1), some (.int x2)] [] [] [])
  refine q_blk 2 [] (c' := q_kc (t, r, m, z, N, ext, rx, L) I E 2 [some (.ref 400), some (.int x1), some (.int x2)] [.int x1, .ref 400] [] []) ok_X12_ropesBetween rfl q_cn ?_
  obtain ⟨r1, hr1, hf⟩ := q_bd hf
  cases hv4 : r1 with
  | inl v2 =>
    have hf := q_sm0 hv4 hf
    refine q_kV (M2 := m_X12_checkHook) (As := [.int x1]) (b := 400) (v2 := none) ok_X12_ropesBetween ok_X12_checkHook cv_X12_checkHook (ct_X12_checkHook_400 (d := 6) (Nat.le_refl _) hr1) (q_oVl hv4) rfl (Or.inl rfl) rfl rfl rfl rfl (Nat.le_trans (Nat.le_of_ble_eq_true rfl) hd) (Nat.le_of_ble_eq_true rfl) (Nat.le_of_ble_eq_true rfl) (Nat.le_of_ble_eq_true rfl) (fun x hx => absurd hx List.not_mem_nil) (q_nmL0 _) (q_nmS0 _) rfl (pos' := 3) (st' := []) (lI' := []) (lE' := []) rfl rfl rfl rfl ?_
    refine q_blk 2 [] (c' := q_kc (t, r, m, z, N, ext, rx, L) I E 5 [some (.ref 400), some (.int x1), some (.int x2)] [.int x2, .ref 400] [] []) ok_X12_ropesBetween rfl q_cn ?_
    obtain ⟨r5, hr5, hf⟩ := q_bd hf
    cases hv8 : r5 with
    | inl v6 =>
      have hf := q_sm0 hv8 hf
      refine q_kV (M2 := m_X12_checkHook) (As := [.int x2]) (b := 400) (v2 := none) ok_X12_ropesBetween ok_X12_checkHook cv_X12_checkHook (ct_X12_checkHook_400 (d := 6) (Nat.le_refl _) hr5) (q_oVl hv8) rfl (Or.inl rfl) rfl rfl rfl rfl (Nat.le_trans (Nat.le_of_ble_eq_true rfl) hd) (Nat.le_of_ble_eq_true rfl) (Nat.le_of_ble_eq_true rfl) (Nat.le_of_ble_eq_true rfl) (fun x hx => absurd hx List.not_mem_nil) (q_nmL0 _) (q_nmS0 _) rfl (pos' := 6) (st' := [.ref 457]) (lI' := []) (lE' := []) rfl rfl rfl rfl ?_
      refine q_blk 4 [] (c' := q_kc (t, r, m, z, N, ext, rx, L) I E 10 [some (.ref 400), some (.int x1), some (.int x2)] [.int x1, .ref 400, .ref 457] [] []) ok_X12_ropesBetween rfl q_cn ?_
      obtain ⟨r9, hr9, hf⟩ := q_bd hf
      cases hv12 : r9 with
      | inl v10 =>
        have hf := q_sm0 hv12 hf
        refine q_kV (M2 := m_X12_heldBale) (As := [.int x1]) (b := 400) (v2 := some (.int v10)) ok_X12_ropesBetween ok_X12_heldBale cv_X12_heldBale (ct_X12_heldBale_400 (d := 7) (Nat.le_refl _) hr9) (q_oIl hv12) rfl (Or.inl rfl) rfl rfl rfl rfl (Nat.le_trans (Nat.le_of_ble_eq_true rfl) hd) (Nat.le_of_ble_eq_true rfl) (Nat.le_of_ble_eq_true rfl) (Nat.le_of_ble_eq_true rfl) (fun x hx => absurd hx List.not_mem_nil) (q_nmL0 _) (q_nmS0 _) rfl (pos' := 11) (st' := [.int v10, .ref 457]) (lI' := []) (lE' := []) rfl rfl rfl rfl ?_
        refine q_blk 2 [] (c' := q_kc (t, r, m, z, N, ext, rx, L) I E 13 [some (.ref 400), some (.int x1), some (.int x2)] [.int x2, .ref 400, .int v10, .ref 457] [] []) ok_X12_ropesBetween rfl q_cn ?_
        obtain ⟨r13, hr13, hf⟩ := q_bd hf
        cases hv16 : r13 with
        | inl v14 =>
          have hf := q_sm0 hv16 hf
          refine q_kV (M2 := m_X12_heldBale) (As := [.int x2]) (b := 400) (v2 := some (.int v14)) ok_X12_ropesBetween ok_X12_heldBale cv_X12_heldBale (ct_X12_heldBale_400 (d := 7) (Nat.le_refl _) hr13) (q_oIl hv16) rfl (Or.inl rfl) rfl rfl rfl rfl (Nat.le_trans (Nat.le_of_ble_eq_true rfl) hd) (Nat.le_of_ble_eq_true rfl) (Nat.le_of_ble_eq_true rfl) (Nat.le_of_ble_eq_true rfl) (fun x hx => absurd hx List.not_mem_nil) (q_nmL0 _) (q_nmS0 _) rfl (pos' := 14) (st' := [.int r17.1]) (lI' := []) (lE' := []) rfl rfl rfl rfl ?_
          obtain ⟨r17, hr17, hf⟩ := q_bd hf
          refine q_kV (M2 := m_X2_ropesAway) (As := [.int v10, .int v14]) (b := 457) (v2 := some (.int r17.1)) ok_X12_ropesBetween ok_X2_ropesAway cv_X2_ropesAway (ct_X2_ropesAway_457 (d := 4) (Nat.le_refl _) hr17) rfl rfl (Or.inl rfl) rfl rfl rfl rfl (Nat.le_trans (Nat.le_of_ble_eq_true rfl) hd) (Nat.le_of_ble_eq_true rfl) (Nat.le_of_ble_eq_true rfl) (Nat.le_of_ble_eq_true rfl) (fun x hx => absurd hx List.not_mem_nil) (q_nmL0 _) (q_nmS0 _) rfl (pos' := 15) (st' := [.int r17.1]) (lI' := [(467, r17.2.1), (468, r17.2.2.1), (469, r17.2.2.2)]) (lE' := []) rfl rfl rfl rfl ?_
          cases hf
          exact q_kri ok_X12_ropesBetween rfl rfl rfl (Nat.le_of_ble_eq_true rfl) (Nat.le_of_ble_eq_true rfl) ⟨rfl, q_hpe (q_fin [467, 468, 469] rfl) (q_fin [] rfl)⟩
        | inr e15 =>
          have hf := q_sm1 hv16 hf
          cases hf
          refine q_kVx (M2 := m_X12_heldBale) (As := [.int x2]) (b := 400) ok_X12_ropesBetween ok_X12_heldBale cv_X12_heldBale (ct_X12_heldBale_400 (d := 7) (Nat.le_refl _) hr13) (q_oIr hv16) rfl (Or.inl rfl) rfl rfl rfl rfl (Nat.le_trans (Nat.le_of_ble_eq_true rfl) hd) (Nat.le_of_ble_eq_true rfl) (Nat.le_of_ble_eq_true rfl) (Nat.le_of_ble_eq_true rfl) (fun x hx => absurd hx List.not_mem_nil) (q_nmL0 _) (q_nmS0 _) rfl (lI' := []) (lE' := []) rfl rfl ⟨rfl, q_hpe (q_fin [467, 468, 469] rfl) (q_fin [] rfl)⟩
      | inr e11 =>
        have hf := q_sm1 hv12 hf
        cases hf
        refine q_kVx (M2 := m_X12_heldBale) (As := [.int x1]) (b := 400) ok_X12_ropesBetween ok_X12_heldBale cv_X12_heldBale (ct_X12_heldBale_400 (d := 7) (Nat.le_refl _) hr9) (q_oIr hv12) rfl (Or.inl rfl) rfl rfl rfl rfl (Nat.le_trans (Nat.le_of_ble_eq_true rfl) hd) (Nat.le_of_ble_eq_true rfl) (Nat.le_of_ble_eq_true rfl) (Nat.le_of_ble_eq_true rfl) (fun x hx => absurd hx List.not_mem_nil) (q_nmL0 _) (q_nmS0 _) rfl (lI' := []) (lE' := []) rfl rfl ⟨rfl, q_hpe (q_fin [467, 468, 469] rfl) (q_fin [] rfl)⟩
    | inr e7 =>
      have hf := q_sm1 hv8 hf
      cases hf
      refine q_kVx (M2 := m_X12_checkHook) (As := [.int x2]) (b := 400) ok_X12_ropesBetween ok_X12_checkHook cv_X12_checkHook (ct_X12_checkHook_400 (d := 6) (Nat.le_refl _) hr5) (q_oVr hv8) rfl (Or.inl rfl) rfl rfl rfl rfl (Nat.le_trans (Nat.le_of_ble_eq_true rfl) hd) (Nat.le_of_ble_eq_true rfl) (Nat.le_of_ble_eq_true rfl) (Nat.le_of_ble_eq_true rfl) (fun x hx => absurd hx List.not_mem_nil) (q_nmL0 _) (q_nmS0 _) rfl (lI' := []) (lE' := []) rfl rfl ⟨rfl, q_hpe (q_fin [467, 468, 469] rfl) (q_fin [] rfl)⟩
  | inr e3 =>
    have hf := q_sm1 hv4 hf
    cases hf
    refine q_kVx (M2 := m_X12_checkHook) (As := [.int x1]) (b := 400) ok_X12_ropesBetween ok_X12_checkHook cv_X12_checkHook (ct_X12_checkHook_400 (d := 6) (Nat.le_refl _) hr1) (q_oVr hv4) rfl (Or.inl rfl) rfl rfl rfl rfl (Nat.le_trans (Nat.le_of_ble_eq_true rfl) hd) (Nat.le_of_ble_eq_true rfl) (Nat.le_of_ble_eq_true rfl) (Nat.le_of_ble_eq_true rfl) (fun x hx => absurd hx List.not_mem_nil) (q_nmL0 _) (q_nmS0 _) rfl (lI' := []) (lE' := []) rfl rfl ⟨rfl, q_hpe (q_fin [467, 468, 469] rfl) (q_fin [] rfl)⟩
set_option maxHeartbeats 4000000 in
theorem ct_X2_freePlaces_457 {g : q_G} {t : Nat} {r : Nat} {m : Nat} {z : Nat} {N : Nat} {ext : Nat → q_Sh} {rx : Nat → Nat → Option Nat} {L : Nat → Nat → Int64} {d : Nat} (hd : 1 ≤ d)  {I : Nat → Nat → Int32} {E : Nat → Nat → Option Nat} {r0 : Int32} (hf : f_X2_freePlaces (I 402) (I 457) = some r0) : q_Ct g m_X2_freePlaces d 0 0 [] [.ref 457] (q_hp (t, r, m, z, N, ext, rx, L) I E) (fun o h' => o = .inl (some (.int r0)) ∧ h' = q_hp (t, r, m, z, N, ext, rx, L) (q_ws I []) (q_ws E [])) := by
  rw [f_X2_freePlaces] at hf
  refine q_Ct_of ok_X2_freePlaces (Nat.le_of_ble_eq_true rfl) ?_ _ rfl rfl
  change q_J g m_X2_freePlaces d 0 0 _ [] _ 0 0 (q_kc (t, r, m, z, N, ext, rx, L) I E 0 [some (.ref 457)] [] [] [])
  refine q_blk 6 [] (c' := q_kc (t, r, m, z, N, ext, rx, L) I E 6 [some (.ref 457)] [.int (((I 402) 0) - ((I 457) 8))] [] []) ok_X2_freePlaces rfl q_cn ?_
  cases hf
  exact q_kri ok_X2_freePlaces rfl rfl rfl (Nat.le_of_ble_eq_true rfl) (Nat.le_of_ble_eq_true rfl) ⟨rfl, q_hpe (q_fin [] rfl) (q_fin [] rfl)⟩
set_option maxHeartbeats 4000000 in
theorem ct_X1_liesInHalf_458 {g : q_G} {t : Nat} {r : Nat} {m : Nat} {z : Nat} {N : Nat} {ext : Nat → q_Sh} {rx : Nat → Nat → Option Nat} {L : Nat → Nat → Int64} {d : Nat} (hd : 1 ≤ d)  {I : Nat → Nat → Int32} {E : Nat → Nat → Option Nat} {x1 : Int32} {r0 : Bool} (hf : f_X1_liesInHalf (I 459) x1 = some r0) : q_Ct g m_X1_liesInHalf d 0 0 [] [.ref 458, .int x1] (q_hp (t, r, m, z, N, ext, rx, L) I E) (fun o h' => o = .inl (some (.int (q_bz r0))) ∧ h' = q_hp (t, r, m, z, N, ext, rx, L) (q_ws I []) (q_ws E [])) := by
  rw [f_X1_liesInHalf] at hf
  refine q_Ct_of ok_X1_liesInHalf (Nat.le_of_ble_eq_true rfl) ?_ _ rfl rfl
  change q_J g m_X1_liesInHalf d 0 0 _ [] _ 0 0 (q_kc (t, r, m, z, N, ext, rx, L) I E 0 [some (.ref 458), some (.int x1)] [] [] [])
  refine q_blf 1 [] (a := q_kc (t, r, m, z, N, ext, rx, L) I E 13 [some (.ref 458), some (.int x1)] [] [] []) (b := q_kc (t, r, m, z, N, ext, rx, L) I E 2 [some (.ref 458), some (.int x1)] [] [] []) (P := x1 < 0) ok_X1_liesInHalf rfl q_cn (fun h1 => ?_) (fun h1 => ?_)
  · have hf := q_ip h1 hf
    refine q_blk 1 [] (c' := q_kc (t, r, m, z, N, ext, rx, L) I E 14 [some (.ref 458), some (.int x1)] [.int (0 : Int32)] [] []) ok_X1_liesInHalf rfl q_cn ?_
    cases hf
    exact q_kri ok_X1_liesInHalf rfl rfl rfl (Nat.le_of_ble_eq_true rfl) (Nat.le_of_ble_eq_true rfl) ⟨rfl, q_hpe (q_fin [] rfl) (q_fin [] rfl)⟩
  · have hf := q_in h1 hf
    refine q_blf 2 [] (a := q_kc (t, r, m, z, N, ext, rx, L) I E 13 [some (.ref 458), some (.int x1)] [] [] []) (b := q_kc (t, r, m, z, N, ext, rx, L) I E 5 [some (.ref 458), some (.int x1)] [] [] []) (P := (128 : Int32) ≤ x1) ok_X1_liesInHalf rfl q_cn (fun h2 => ?_) (fun h2 => ?_)
    · have hf := q_ip h2 hf
      refine q_blk 1 [] (c' := q_kc (t, r, m, z, N, ext, rx, L) I E 14 [some (.ref 458), some (.int x1)] [.int (0 : Int32)] [] []) ok_X1_liesInHalf rfl q_cn ?_
      cases hf
      exact q_kri ok_X1_liesInHalf rfl rfl rfl (Nat.le_of_ble_eq_true rfl) (Nat.le_of_ble_eq_true rfl) ⟨rfl, q_hpe (q_fin [] rfl) (q_fin [] rfl)⟩
    · have hf := q_in h2 hf
      obtain ⟨j3, hj3, hf⟩ := q_bd hf
      refine q_blf 5 [j3] (a := q_kc (t, r, m, z, N, ext, rx, L) I E 13 [some (.ref 458), some (.int x1)] [] [] []) (b := q_kc (t, r, m, z, N, ext, rx, L) I E 11 [some (.ref 458), some (.int x1)] [] [] []) (P := ¬ ((I 459) j3) = (1 : Int32)) ok_X1_liesInHalf rfl (q_cc hj3 q_cn) (fun h4 => ?_) (fun h4 => ?_)
      · have hf := q_ip h4 hf
        refine q_blk 1 [] (c' := q_kc (t, r, m, z, N, ext, rx, L) I E 14 [some (.ref 458), some (.int x1)] [.int (0 : Int32)] [] []) ok_X1_liesInHalf rfl q_cn ?_
        cases hf
        exact q_kri ok_X1_liesInHalf rfl rfl rfl (Nat.le_of_ble_eq_true rfl) (Nat.le_of_ble_eq_true rfl) ⟨rfl, q_hpe (q_fin [] rfl) (q_fin [] rfl)⟩
      · have hf := q_in h4 hf
        refine q_blk 2 [] (c' := q_kc (t, r, m, z, N, ext, rx, L) I E 14 [some (.ref 458), some (.int x1)] [.int (1 : Int32)] [] []) ok_X1_liesInHalf rfl q_cn ?_
        cases hf
        exact q_kri ok_X1_liesInHalf rfl rfl rfl (Nat.le_of_ble_eq_true rfl) (Nat.le_of_ble_eq_true rfl) ⟨rfl, q_hpe (q_fin [] rfl) (q_fin [] rfl)⟩
set_option maxHeartbeats 4000000 in
theorem lp_X5_gapFor_L4_465 {g : q_G} {d mc ms : Nat} {h0 : q_H} {Q : (Option Value ⊕ String) → q_H → Prop} {k n : Nat} {t : Nat} {r : Nat} {m : Nat} {z : Nat} {N : Nat} {ext : Nat → q_Sh} {rx : Nat → Nat → Option Nat} {L : Nat → Nat → Int64} (hd : 1 ≤ d) (hk : k ≤ mc) (hn : n ≤ ms)  {v1 : Int32} : ∀ (fu : Nat) {I : Nat → Nat → Int32} {E : Nat → Nat → Option Nat} {v2 : Int32} {v3 : Int32} {r0 : Nat × Int32 × Int32} (hf : f_X5_gapFor_L4 (I 465) (I 466) v1 fu v2 v3 = some r0) (hK0 : r0.1 = 0 → q_J g m_X5_gapFor d mc ms h0 [] Q k n (q_kc (t, r, m, z, N, ext, rx, L) I E 34 [none, none, none, none] [] [] [])) (hK1 : r0.1 = 1 → q_J g m_X5_gapFor d mc ms h0 [] Q k n (q_kc (t, r, m, z, N, ext, rx, L) I E 26 [none, none, some (.int r0.2.1), some (.int r0.2.2)] [] [] [])), q_J g m_X5_gapFor d mc ms h0 [] Q k n (4, [some (.ref 465), some (.int v1), some (.int v2), some (.int v3)], [], q_hp (t, r, m, z, N, ext, rx, L) I E) := by
  intro fu
  induction fu with
  | zero =>
    intro I E v2 v3 r0 hf hK0 hK1
    rw [f_X5_gapFor_L4] at hf
    cases hf
  | succ fu ih =>
    intro I E v2 v3 r0 hf hK0 hK1
    rw [f_X5_gapFor_L4] at hf
    change q_J g m_X5_gapFor d mc ms h0 [] Q k n (q_kc (t, r, m, z, N, ext, rx, L) I E 4 [some (.ref 465), some (.int v1), some (.int v2), some (.int v3)] [] [] [])
    refine q_blf 3 [] (a := q_kc (t, r, m, z, N, ext, rx, L) I E 34 [some (.ref 465), some (.int v1), some (.int v2), some (.int v3)] [] [] []) (b := q_kc (t, r, m, z, N, ext, rx, L) I E 8 [some (.ref 465), some (.int v1), some (.int v2), some (.int v3)] [] [] []) (P := ((I 465) 1) ≤ v3) ok_X5_gapFor rfl q_cn (fun h1 => ?_) (fun h1 => ?_)
    · have hf := q_ip h1 hf
      refine q_less (ls' := [none, none, none, none]) (q_sb1 (q_sb1 (q_sb1 (q_sb1 q_sb0)))) ?_
      cases hf
      exact q_Jpad [] [] rfl rfl (hK0 rfl)
    · have hf := q_in h1 hf
      refine q_blf 2 [] (a := q_kc (t, r, m, z, N, ext, rx, L) I E 34 [some (.ref 465), some (.int v1), some (.int v2), some (.int v3)] [] [] []) (b := q_kc (t, r, m, z, N, ext, rx, L) I E 11 [some (.ref 465), some (.int v1), some (.int v2), some (.int v3)] [] [] []) (P := (64 : Int32) ≤ v3) ok_X5_gapFor rfl q_cn (fun h2 => ?_) (fun h2 => ?_)
      · have hf := q_ip h2 hf
        refine q_less (ls' := [none, none, none, none]) (q_sb1 (q_sb1 (q_sb1 (q_sb1 q_sb0)))) ?_
        cases hf
        exact q_Jpad [] [] rfl rfl (hK0 rfl)
      · have hf := q_in h2 hf
        obtain ⟨j3, hj3, hf⟩ := q_bd hf
        refine q_blf 5 [j3] (a := q_kc (t, r, m, z, N, ext, rx, L) I E 21 [some (.ref 465), some (.int v1), some (.int v2), some (.int v3)] [] [] []) (b := q_kc (t, r, m, z, N, ext, rx, L) I E 17 [some (.ref 465), some (.int v1), some (.int v2), some (.int v3)] [] [] []) (P := ¬ ((I 466) j3) = (-1 : Int32)) ok_X5_gapFor rfl (q_cc hj3 q_cn) (fun h4 => ?_) (fun h4 => ?_)
        · have hf := q_ip h4 hf
          refine q_blf 4 [] (a := q_kc (t, r, m, z, N, ext, rx, L) I E 32 [some (.ref 465), some (.int v1), some (.int (0 : Int32)), some (.int v3)] [] [] []) (b := q_kc (t, r, m, z, N, ext, rx, L) I E 26 [some (.ref 465), some (.int v1), some (.int (0 : Int32)), some (.int v3)] [] [] []) (P := (0 : Int32) < v1) ok_X5_gapFor rfl q_cn (fun h5 => ?_) (fun h5 => ?_)
          · have hf := q_ip h5 hf
            refine q_blk 2 [] (c' := q_kc (t, r, m, z, N, ext, rx, L) I E 4 [some (.ref 465), some (.int v1), some (.int (0 : Int32)), some (.int (v3 + 1))] [] [] []) ok_X5_gapFor rfl q_cn ?_
            exact ih (I := q_ws I []) (E := q_ws E []) hf (fun hz => q_Jmrg rfl rfl (hK0 hz)) (fun hz => q_Jmrg rfl rfl (hK1 hz))
          · have hf := q_in h5 hf
            refine q_less (ls' := [none, none, some (.int (0 : Int32)), some (.int v3)]) (q_sb1 (q_sb1 (q_sb2 (q_sb2 q_sb0)))) ?_
            cases hf
            exact q_Jpad [] [] rfl rfl (hK1 rfl)
        · have hf := q_in h4 hf
          refine q_blf 7 [] (a := q_kc (t, r, m, z, N, ext, rx, L) I E 32 [some (.ref 465), some (.int v1), some (.int (v2 + (1 : Int32))), some (.int v3)] [] [] []) (b := q_kc (t, r, m, z, N, ext, rx, L) I E 26 [some (.ref 465), some (.int v1), some (.int (v2 + (1 : Int32))), some (.int v3)] [] [] []) (P := (v2 + (1 : Int32)) < v1) ok_X5_gapFor rfl q_cn (fun h6 => ?_) (fun h6 => ?_)
          · have hf := q_ip h6 hf
            refine q_blk 2 [] (c' := q_kc (t, r, m, z, N, ext, rx, L) I E 4 [some (.ref 465), some (.int v1), some (.int (v2 + (1 : Int32))), some (.int (v3 + 1))] [] [] []) ok_X5_gapFor rfl q_cn ?_
            exact ih (I := q_ws I []) (E := q_ws E []) hf (fun hz => q_Jmrg rfl rfl (hK0 hz)) (fun hz => q_Jmrg rfl rfl (hK1 hz))
          · have hf := q_in h6 hf
            refine q_less (ls' := [none, none, some (.int (v2 + (1 : Int32))), some (.int v3)]) (q_sb1 (q_sb1 (q_sb2 (q_sb2 q_sb0)))) ?_
            cases hf
            exact q_Jpad [] [] rfl rfl (hK1 rfl)
set_option maxHeartbeats 4000000 in
theorem ct_X5_gapFor_465 {g : q_G} {t : Nat} {r : Nat} {m : Nat} {z : Nat} {N : Nat} {ext : Nat → q_Sh} {rx : Nat → Nat → Option Nat} {L : Nat → Nat → Int64} {d : Nat} (hd : 1 ≤ d)  {I : Nat → Nat → Int32} {E : Nat → Nat → Option Nat} {x1 : Int32} {r0 : Int32} (hf : f_X5_gapFor (I 465) (I 466) x1 = some r0) : q_Ct g m_X5_gapFor d 0 0 [] [.ref 465, .int x1] (q_hp (t, r, m, z, N, ext, rx, L) I E) (fun o h' => o = .inl (some (.int r0)) ∧ h' = q_hp (t, r, m, z, N, ext, rx, L) (q_ws I []) (q_ws E [])) := by
  rw [f_X5_gapFor] at hf
  refine q_Ct_of ok_X5_gapFor (Nat.le_of_ble_eq_true rfl) ?_ _ rfl rfl
  change q_J g m_X5_gapFor d 0 0 _ [] _ 0 0 (q_kc (t, r, m, z, N, ext, rx, L) I E 0 [some (.ref 465), some (.int x1), none, none] [] [] [])
  refine q_blk 4 [] (c' := q_kc (t, r, m, z, N, ext, rx, L) I E 4 [some (.ref 465), some (.int x1), some (.int (0 : Int32)), some (.int (0 : Int32))] [] [] []) ok_X5_gapFor rfl q_cn ?_
  obtain ⟨r7, hr7, hf⟩ := q_bd hf
  refine lp_X5_gapFor_L4_465 (I := q_ws I []) (E := q_ws E []) hd (Nat.le_of_ble_eq_true rfl) (Nat.le_of_ble_eq_true rfl) 4096 hr7 ?_ ?_
  · intro hz0
    have hf := q_ip hz0 hf
    refine q_Jmrg (lI' := []) (lE' := []) rfl rfl ?_
    refine q_blk 1 [] (c' := q_kc (t, r, m, z, N, ext, rx, L) I E 35 [none, none, none, none] [.int (-1 : Int32)] [] []) ok_X5_gapFor rfl q_cn ?_
    cases hf
    exact q_kri ok_X5_gapFor rfl rfl rfl (Nat.le_of_ble_eq_true rfl) (Nat.le_of_ble_eq_true rfl) ⟨rfl, q_hpe (q_fin [] rfl) (q_fin [] rfl)⟩
  · intro hz1
    have hf := q_in (fun h9 => absurd (hz1.symm.trans h9) (by decide)) hf
    refine q_Jmrg (lI' := []) (lE' := []) rfl rfl ?_
    refine q_blk 5 [] (c' := q_kc (t, r, m, z, N, ext, rx, L) I E 31 [none, none, some (.int r7.2.1), some (.int r7.2.2)] [.int ((r7.2.2 + (1 : Int32)) - r7.2.1)] [] []) ok_X5_gapFor rfl q_cn ?_
    cases hf
    exact q_kri ok_X5_gapFor rfl rfl rfl (Nat.le_of_ble_eq_true rfl) (Nat.le_of_ble_eq_true rfl) ⟨rfl, q_hpe (q_fin [] rfl) (q_fin [] rfl)⟩
set_option maxHeartbeats 4000000 in
theorem ct_X1_copyTo_458 {g : q_G} {t : Nat} {r : Nat} {m : Nat} {z : Nat} {N : Nat} {ext : Nat → q_Sh} {rx : Nat → Nat → Option Nat} {L : Nat → Nat → Int64} {d : Nat} (hd : 1 ≤ d)  {I : Nat → Nat → Int32} {E : Nat → Nat → Option Nat} {x1 : Int32} {x2 : Int32} {r0 : (Nat → Int32) × (Nat → Int32)} (hf : f_X1_copyTo (I 460) (I 462) x1 x2 = some r0) : q_Ct g m_X1_copyTo d 0 0 [] [.ref 458, .int x1, .int x2] (q_hp (t, r, m, z, N, ext, rx, L) I E) (fun o h' => o = .inl none ∧ h' = q_hp (t, r, m, z, N, ext, rx, L) (q_ws I [(460, r0.1), (462, r0.2)]) (q_ws E [])) := by
  rw [f_X1_copyTo] at hf
  refine q_Ct_of ok_X1_copyTo (Nat.le_of_ble_eq_true rfl) ?_ _ rfl rfl
  change q_J g m_X1_copyTo d 0 0 _ [] _ 0 0 (q_kc (t, r, m, z, N, ext, rx, L) I E 0 [some (.ref 458), some (.int x1), some (.int x2)] [] [] [])
  refine q_blf 1 [] (a := q_kc (t, r, m, z, N, ext, rx, L) I E 18 [some (.ref 458), some (.int x1), some (.int x2)] [] [] []) (b := q_kc (t, r, m, z, N, ext, rx, L) I E 2 [some (.ref 458), some (.int x1), some (.int x2)] [] [] []) (P := x1 < 0) ok_X1_copyTo rfl q_cn (fun h1 => ?_) (fun h1 => ?_)
  · have hf := q_ip h1 hf
    cases hf
    exact q_krv ok_X1_copyTo rfl rfl (Nat.le_of_ble_eq_true rfl) (Nat.le_of_ble_eq_true rfl) ⟨rfl, q_hpe (q_fin [460, 462] rfl) (q_fin [] rfl)⟩
  · have hf := q_in h1 hf
    refine q_blf 2 [] (a := q_kc (t, r, m, z, N, ext, rx, L) I E 18 [some (.ref 458), some (.int x1), some (.int x2)] [] [] []) (b := q_kc (t, r, m, z, N, ext, rx, L) I E 5 [some (.ref 458), some (.int x1), some (.int x2)] [] [] []) (P := (128 : Int32) ≤ x1) ok_X1_copyTo rfl q_cn (fun h2 => ?_) (fun h2 => ?_)
    · have hf := q_ip h2 hf
      cases hf
      exact q_krv ok_X1_copyTo rfl rfl (Nat.le_of_ble_eq_true rfl) (Nat.le_of_ble_eq_true rfl) ⟨rfl, q_hpe (q_fin [460, 462] rfl) (q_fin [] rfl)⟩
    · have hf := q_in h2 hf
      obtain ⟨j3, hj3, hf⟩ := q_bd hf
      obtain ⟨j4, hj4, hf⟩ := q_bd hf
      obtain ⟨j5, hj5, hf⟩ := q_bd hf
      refine q_blk 13 [j3, j4, j5] (c' := q_kc (t, r, m, z, N, ext, rx, L) I E 18 [some (.ref 458), some (.int x1), some (.int x2)] [] [(460, (q_up (I 460) j3 x2)), (462, (q_up (I 462) j5 (((I 462) j4) + (1 : Int32))))] []) ok_X1_copyTo rfl (q_cc hj5 (q_cc hj4 (q_cc hj3 q_cn))) ?_
      cases hf
      exact q_krv ok_X1_copyTo rfl rfl (Nat.le_of_ble_eq_true rfl) (Nat.le_of_ble_eq_true rfl) ⟨rfl, q_hpe (q_fin [460, 462] rfl) (q_fin [] rfl)⟩
set_option maxHeartbeats 4000000 in
theorem ct_X2_layInRow_457 {g : q_G} {t : Nat} {r : Nat} {m : Nat} {z : Nat} {N : Nat} {ext : Nat → q_Sh} {rx : Nat → Nat → Option Nat} {L : Nat → Nat → Int64} {d : Nat} (hd : 1 ≤ d)  {I : Nat → Nat → Int32} {E : Nat → Nat → Option Nat} {x1 : Int32} {x2 : Int32} {r0 : (Nat → Int32) × (Nat → Int32)} (hf : f_X2_layInRow (I 457) (I 471) x1 x2 = some r0) : q_Ct g m_X2_layInRow d 0 0 [] [.ref 457, .int x1, .int x2] (q_hp (t, r, m, z, N, ext, rx, L) I E) (fun o h' => o = .inl none ∧ h' = q_hp (t, r, m, z, N, ext, rx, L) (q_ws I [(457, r0.1), (471, r0.2)]) (q_ws E [])) := by
  rw [f_X2_layInRow] at hf
  refine q_Ct_of ok_X2_layInRow (Nat.le_of_ble_eq_true rfl) ?_ _ rfl rfl
  change q_J g m_X2_layInRow d 0 0 _ [] _ 0 0 (q_kc (t, r, m, z, N, ext, rx, L) I E 0 [some (.ref 457), some (.int x1), some (.int x2)] [] [] [])
  refine q_blf 2 [] (a := q_kc (t, r, m, z, N, ext, rx, L) I E 25 [some (.ref 457), some (.int x1), some (.int x2)] [] [] []) (b := q_kc (t, r, m, z, N, ext, rx, L) I E 3 [some (.ref 457), some (.int x1), some (.int x2)] [] [] []) (P := ((I 457) 7) < 0) ok_X2_layInRow rfl q_cn (fun h1 => ?_) (fun h1 => ?_)
  · have hf := q_ip h1 hf
    cases hf
    exact q_krv ok_X2_layInRow rfl rfl (Nat.le_of_ble_eq_true rfl) (Nat.le_of_ble_eq_true rfl) ⟨rfl, q_hpe (q_fin [457, 471] rfl) (q_fin [] rfl)⟩
  · have hf := q_in h1 hf
    refine q_blf 3 [] (a := q_kc (t, r, m, z, N, ext, rx, L) I E 25 [some (.ref 457), some (.int x1), some (.int x2)] [] [] []) (b := q_kc (t, r, m, z, N, ext, rx, L) I E 7 [some (.ref 457), some (.int x1), some (.int x2)] [] [] []) (P := (64 : Int32) ≤ ((I 457) 7)) ok_X2_layInRow rfl q_cn (fun h2 => ?_) (fun h2 => ?_)
    · have hf := q_ip h2 hf
      cases hf
      exact q_krv ok_X2_layInRow rfl rfl (Nat.le_of_ble_eq_true rfl) (Nat.le_of_ble_eq_true rfl) ⟨rfl, q_hpe (q_fin [457, 471] rfl) (q_fin [] rfl)⟩
    · have hf := q_in h2 hf
      obtain ⟨j3, hj3, hf⟩ := q_bd hf
      refine q_blk 18 [j3] (c' := q_kc (t, r, m, z, N, ext, rx, L) I E 25 [some (.ref 457), some (.int x1), some (.int x2)] [] [(457, (q_up (q_up (I 457) 7 (((I 457) 7) + (1 : Int32))) 8 (((q_up (I 457) 7 (((I 457) 7) + (1 : Int32))) 8) + x2))), (471, (q_up (I 471) j3 x1))] []) ok_X2_layInRow rfl (q_cc hj3 q_cn) ?_
      cases hf
      exact q_krv ok_X2_layInRow rfl rfl (Nat.le_of_ble_eq_true rfl) (Nat.le_of_ble_eq_true rfl) ⟨rfl, q_hpe (q_fin [457, 471] rfl) (q_fin [] rfl)⟩
set_option maxHeartbeats 4000000 in
theorem ct_X1_promoteTo_458 {g : q_G} {t : Nat} {r : Nat} {m : Nat} {z : Nat} {N : Nat} {ext : Nat → q_Sh} {rx : Nat → Nat → Option Nat} {L : Nat → Nat → Int64} {d : Nat} (hd : 1 ≤ d)  {I : Nat → Nat → Int32} {E : Nat → Nat → Option Nat} {x1 : Int32} {x2 : Int32} {r0 : (Nat → Int32) × (Nat → Int32)} (hf : f_X1_promoteTo (I 459) (I 460) x1 x2 = some r0) : q_Ct g m_X1_promoteTo d 0 0 [] [.ref 458, .int x1, .int x2] (q_hp (t, r, m, z, N, ext, rx, L) I E) (fun o h' => o = .inl none ∧ h' = q_hp (t, r, m, z, N, ext, rx, L) (q_ws I [(459, r0.1), (460, r0.2)]) (q_ws E [])) := by
  rw [f_X1_promoteTo] at hf
  refine q_Ct_of ok_X1_promoteTo (Nat.le_of_ble_eq_true rfl) ?_ _ rfl rfl
  change q_J g m_X1_promoteTo d 0 0 _ [] _ 0 0 (q_kc (t, r, m, z, N, ext, rx, L) I E 0 [some (.ref 458), some (.int x1), some (.int x2)] [] [] [])
  refine q_blf 1 [] (a := q_kc (t, r, m, z, N, ext, rx, L) I E 15 [some (.ref 458), some (.int x1), some (.int x2)] [] [] []) (b := q_kc (t, r, m, z, N, ext, rx, L) I E 2 [some (.ref 458), some (.int x1), some (.int x2)] [] [] []) (P := x1 < 0) ok_X1_promoteTo rfl q_cn (fun h1 => ?_) (fun h1 => ?_)
  · have hf := q_ip h1 hf
    cases hf
    exact q_krv ok_X1_promoteTo rfl rfl (Nat.le_of_ble_eq_true rfl) (Nat.le_of_ble_eq_true rfl) ⟨rfl, q_hpe (q_fin [459, 460] rfl) (q_fin [] rfl)⟩
  · have hf := q_in h1 hf
    refine q_blf 2 [] (a := q_kc (t, r, m, z, N, ext, rx, L) I E 15 [some (.ref 458), some (.int x1), some (.int x2)] [] [] []) (b := q_kc (t, r, m, z, N, ext, rx, L) I E 5 [some (.ref 458), some (.int x1), some (.int x2)] [] [] []) (P := (128 : Int32) ≤ x1) ok_X1_promoteTo rfl q_cn (fun h2 => ?_) (fun h2 => ?_)
    · have hf := q_ip h2 hf
      cases hf
      exact q_krv ok_X1_promoteTo rfl rfl (Nat.le_of_ble_eq_true rfl) (Nat.le_of_ble_eq_true rfl) ⟨rfl, q_hpe (q_fin [459, 460] rfl) (q_fin [] rfl)⟩
    · have hf := q_in h2 hf
      obtain ⟨j3, hj3, hf⟩ := q_bd hf
      obtain ⟨j4, hj4, hf⟩ := q_bd hf
      refine q_blk 10 [j3, j4] (c' := q_kc (t, r, m, z, N, ext, rx, L) I E 15 [some (.ref 458), some (.int x1), some (.int x2)] [] [(459, (q_up (I 459) j4 (2 : Int32))), (460, (q_up (I 460) j3 x2))] []) ok_X1_promoteTo rfl (q_cc hj4 (q_cc hj3 q_cn)) ?_
      cases hf
      exact q_krv ok_X1_promoteTo rfl rfl (Nat.le_of_ble_eq_true rfl) (Nat.le_of_ble_eq_true rfl) ⟨rfl, q_hpe (q_fin [459, 460] rfl) (q_fin [] rfl)⟩
set_option maxHeartbeats 4000000 in
theorem lp_X5_lay_L2_465 {g : q_G} {d mc ms : Nat} {h0 : q_H} {Q : (Option Value ⊕ String) → q_H → Prop} {k n : Nat} {t : Nat} {r : Nat} {m : Nat} {z : Nat} {N : Nat} {ext : Nat → q_Sh} {rx : Nat → Nat → Option Nat} {L : Nat → Nat → Int64} (hd : 1 ≤ d) (hk : k ≤ mc) (hn : n ≤ ms)  {v1 : Int32} {v2 : Int32} {v3 : Int32} : ∀ (fu : Nat) {I : Nat → Nat → Int32} {E : Nat → Nat → Option Nat} {v4 : Int32} {r0 : (Nat → Int32)} (hf : f_X5_lay_L2 (I 465) v1 v2 v3 fu (I 466) v4 = some r0) (hK0 : q_J g m_X5_lay d mc ms h0 [] Q k n (q_kc (t, r, m, z, N, ext, rx, L) I E 25 [some (.ref 465), some (.int v1), none, none, none, none] [] [(466, r0)] [])), q_J g m_X5_lay d mc ms h0 [] Q k n (2, [some (.ref 465), some (.int v1), some (.int v2), some (.int v3), some (.int v4), none], [], q_hp (t, r, m, z, N, ext, rx, L) I E) := by
  intro fu
  induction fu with
  | zero =>
    intro I E v4 r0 hf hK0
    rw [f_X5_lay_L2] at hf
    cases hf
  | succ fu ih =>
    intro I E v4 r0 hf hK0
    rw [f_X5_lay_L2] at hf
    change q_J g m_X5_lay d mc ms h0 [] Q k n (q_kc (t, r, m, z, N, ext, rx, L) I E 2 [some (.ref 465), some (.int v1), some (.int v2), some (.int v3), some (.int v4), none] [] [] [])
    refine q_blf 2 [] (a := q_kc (t, r, m, z, N, ext, rx, L) I E 25 [some (.ref 465), some (.int v1), some (.int v2), some (.int v3), some (.int v4), none] [] [] []) (b := q_kc (t, r, m, z, N, ext, rx, L) I E 5 [some (.ref 465), some (.int v1), some (.int v2), some (.int v3), some (.int v4), none] [] [] []) (P := v3 ≤ v4) ok_X5_lay rfl q_cn (fun h1 => ?_) (fun h1 => ?_)
    · have hf := q_ip h1 hf
      refine q_less (ls' := [some (.ref 465), some (.int v1), none, none, none, none]) (q_sb2 (q_sb2 (q_sb1 (q_sb1 (q_sb1 (q_sb1 q_sb0)))))) ?_
      cases hf
      exact q_Jpad [466] [] rfl rfl hK0
    · have hf := q_in h1 hf
      refine q_blf 5 [] (a := q_kc (t, r, m, z, N, ext, rx, L) I E 23 [some (.ref 465), some (.int v1), some (.int v2), some (.int v3), some (.int v4), some (.int (v2 + v4))] [] [] []) (b := q_kc (t, r, m, z, N, ext, rx, L) I E 11 [some (.ref 465), some (.int v1), some (.int v2), some (.int v3), some (.int v4), some (.int (v2 + v4))] [] [] []) (P := (v2 + v4) < 0) ok_X5_lay rfl q_cn (fun h2 => ?_) (fun h2 => ?_)
      · have hf := q_ip h2 hf
        refine q_blk 2 [] (c' := q_kc (t, r, m, z, N, ext, rx, L) I E 2 [some (.ref 465), some (.int v1), some (.int v2), some (.int v3), some (.int (v4 + 1)), some (.int (v2 + v4))] [] [] []) ok_X5_lay rfl q_cn ?_
        refine q_less (ls' := [some (.ref 465), some (.int v1), some (.int v2), some (.int v3), some (.int (v4 + 1)), none]) (q_sb2 (q_sb2 (q_sb2 (q_sb2 (q_sb2 (q_sb1 q_sb0)))))) ?_
        exact ih (I := q_ws I []) (E := q_ws E []) hf (q_Jmrg rfl rfl hK0)
      · have hf := q_in h2 hf
        refine q_blf 3 [] (a := q_kc (t, r, m, z, N, ext, rx, L) I E 23 [some (.ref 465), some (.int v1), some (.int v2), some (.int v3), some (.int v4), some (.int (v2 + v4))] [] [] []) (b := q_kc (t, r, m, z, N, ext, rx, L) I E 15 [some (.ref 465), some (.int v1), some (.int v2), some (.int v3), some (.int v4), some (.int (v2 + v4))] [] [] []) (P := ((I 465) 1) ≤ (v2 + v4)) ok_X5_lay rfl q_cn (fun h3 => ?_) (fun h3 => ?_)
        · have hf := q_ip h3 hf
          refine q_blk 2 [] (c' := q_kc (t, r, m, z, N, ext, rx, L) I E 2 [some (.ref 465), some (.int v1), some (.int v2), some (.int v3), some (.int (v4 + 1)), some (.int (v2 + v4))] [] [] []) ok_X5_lay rfl q_cn ?_
          refine q_less (ls' := [some (.ref 465), some (.int v1), some (.int v2), some (.int v3), some (.int (v4 + 1)), none]) (q_sb2 (q_sb2 (q_sb2 (q_sb2 (q_sb2 (q_sb1 q_sb0)))))) ?_
          exact ih (I := q_ws I []) (E := q_ws E []) hf (q_Jmrg rfl rfl hK0)
        · have hf := q_in h3 hf
          refine q_blf 2 [] (a := q_kc (t, r, m, z, N, ext, rx, L) I E 23 [some (.ref 465), some (.int v1), some (.int v2), some (.int v3), some (.int v4), some (.int (v2 + v4))] [] [] []) (b := q_kc (t, r, m, z, N, ext, rx, L) I E 18 [some (.ref 465), some (.int v1), some (.int v2), some (.int v3), some (.int v4), some (.int (v2 + v4))] [] [] []) (P := (64 : Int32) ≤ (v2 + v4)) ok_X5_lay rfl q_cn (fun h4 => ?_) (fun h4 => ?_)
          · have hf := q_ip h4 hf
            refine q_blk 2 [] (c' := q_kc (t, r, m, z, N, ext, rx, L) I E 2 [some (.ref 465), some (.int v1), some (.int v2), some (.int v3), some (.int (v4 + 1)), some (.int (v2 + v4))] [] [] []) ok_X5_lay rfl q_cn ?_
            refine q_less (ls' := [some (.ref 465), some (.int v1), some (.int v2), some (.int v3), some (.int (v4 + 1)), none]) (q_sb2 (q_sb2 (q_sb2 (q_sb2 (q_sb2 (q_sb1 q_sb0)))))) ?_
            exact ih (I := q_ws I []) (E := q_ws E []) hf (q_Jmrg rfl rfl hK0)
          · have hf := q_in h4 hf
            obtain ⟨j5, hj5, hf⟩ := q_bd hf
            refine q_blk 7 [j5] (c' := q_kc (t, r, m, z, N, ext, rx, L) I E 2 [some (.ref 465), some (.int v1), some (.int v2), some (.int v3), some (.int (v4 + 1)), some (.int (v2 + v4))] [] [(466, (q_up (I 466) j5 v1))] []) ok_X5_lay rfl (q_cc hj5 q_cn) ?_
            refine q_less (ls' := [some (.ref 465), some (.int v1), some (.int v2), some (.int v3), some (.int (v4 + 1)), none]) (q_sb2 (q_sb2 (q_sb2 (q_sb2 (q_sb2 (q_sb1 q_sb0)))))) ?_
            exact ih (I := q_ws I [(466, (q_up (I 466) j5 v1))]) (E := q_ws E []) hf (q_Jmrg rfl rfl hK0)
set_option maxHeartbeats 4000000 in
theorem ct_X5_lay_465 {g : q_G} {t : Nat} {r : Nat} {m : Nat} {z : Nat} {N : Nat} {ext : Nat → q_Sh} {rx : Nat → Nat → Option Nat} {L : Nat → Nat → Int64} {d : Nat} (hd : 1 ≤ d)  {I : Nat → Nat → Int32} {E : Nat → Nat → Option Nat} {x1 : Int32} {x2 : Int32} {x3 : Int32} {r0 : (Nat → Int32) × (Nat → Int32)} (hf : f_X5_lay (I 465) (I 466) x1 x2 x3 = some r0) : q_Ct g m_X5_lay d 0 0 [] [.ref 465, .int x1, .int x2, .int x3] (q_hp (t, r, m, z, N, ext, rx, L) I E) (fun o h' => o = .inl none ∧ h' = q_hp (t, r, m, z, N, ext, rx, L) (q_ws I [(465, r0.1), (466, r0.2)]) (q_ws E [])) := by
  rw [f_X5_lay] at hf
  refine q_Ct_of ok_X5_lay (Nat.le_of_ble_eq_true rfl) ?_ _ rfl rfl
  change q_J g m_X5_lay d 0 0 _ [] _ 0 0 (q_kc (t, r, m, z, N, ext, rx, L) I E 0 [some (.ref 465), some (.int x1), some (.int x2), some (.int x3), none, none] [] [] [])
  refine q_blk 2 [] (c' := q_kc (t, r, m, z, N, ext, rx, L) I E 2 [some (.ref 465), some (.int x1), some (.int x2), some (.int x3), some (.int (0 : Int32)), none] [] [] []) ok_X5_lay rfl q_cn ?_
  obtain ⟨r6, hr6, hf⟩ := q_bd hf
  refine lp_X5_lay_L2_465 (I := q_ws I []) (E := q_ws E []) hd (Nat.le_of_ble_eq_true rfl) (Nat.le_of_ble_eq_true rfl) 4096 hr6 ?_
  refine q_Jmrg (lI' := [(466, r6)]) (lE' := []) rfl rfl ?_
  refine q_blf 5 [] (a := q_kc (t, r, m, z, N, ext, rx, L) I E 33 [some (.ref 465), some (.int x1), none, none, none, none] [.int ((I 465) 2), .ref 465] [(466, r6)] []) (b := q_kc (t, r, m, z, N, ext, rx, L) I E 31 [some (.ref 465), some (.int x1), none, none, none, none] [.int ((I 465) 2), .ref 465] [(466, r6)] []) (P := ¬ x1 = (-1 : Int32)) ok_X5_lay rfl q_cn (fun h7 => ?_) (fun h7 => ?_)
  · have hf := q_ip h7 hf
    refine q_blk 3 [] (c' := q_kc (t, r, m, z, N, ext, rx, L) I E 36 [some (.ref 465), some (.int x1), none, none, none, none] [] [(465, (q_up (I 465) 2 (((I 465) 2) + (1 : Int32)))), (466, r6)] []) ok_X5_lay rfl q_cn ?_
    cases hf
    exact q_krv ok_X5_lay rfl rfl (Nat.le_of_ble_eq_true rfl) (Nat.le_of_ble_eq_true rfl) ⟨rfl, q_hpe (q_fin [465, 466] rfl) (q_fin [] rfl)⟩
  · have hf := q_in h7 hf
    refine q_blk 4 [] (c' := q_kc (t, r, m, z, N, ext, rx, L) I E 36 [some (.ref 465), some (.int x1), none, none, none, none] [] [(465, (q_up (I 465) 2 (((I 465) 2) + (-1 : Int32)))), (466, r6)] []) ok_X5_lay rfl q_cn ?_
    cases hf
    exact q_krv ok_X5_lay rfl rfl (Nat.le_of_ble_eq_true rfl) (Nat.le_of_ble_eq_true rfl) ⟨rfl, q_hpe (q_fin [465, 466] rfl) (q_fin [] rfl)⟩
set_option maxHeartbeats 4000000 in
theorem ct_X2_takeOver_457 {g : q_G} {t : Nat} {r : Nat} {m : Nat} {z : Nat} {N : Nat} {ext : Nat → q_Sh} {rx : Nat → Nat → Option Nat} {L : Nat → Nat → Int64} {d : Nat} (hd : 2 ≤ d)  {I : Nat → Nat → Int32} {E : Nat → Nat → Option Nat} {x1 : Int32} {r0 : (Nat → Int32) × (Nat → Int32) × (Nat → Int32) × (Nat → Int32) × (Nat → Int32) × (Nat → Int32) × (Nat → Int32) × (Nat → Int32) × (Nat → Int32) × (Nat → Int32)} (hf : f_X2_takeOver (I 402) (I 457) (I 459) (I 460) (I 461) (I 462) (I 465) (I 466) (I 467) (I 468) (I 469) (I 471) x1 = some r0) : q_Ct g m_X2_takeOver d 0 0 [] [.ref 457, .int x1] (q_hp (t, r, m, z, N, ext, rx, L) I E) (fun o h' => o = .inl none ∧ h' = q_hp (t, r, m, z, N, ext, rx, L) (q_ws I [(457, r0.1), (459, r0.2.1), (460, r0.2.2.1), (462, r0.2.2.2.1), (465, r0.2.2.2.2.1), (466, r0.2.2.2.2.2.1), (467, r0.2.2.2.2.2.2.1), (468, r0.2.2.2.2.2.2.2.1), (469, r0.2.2.2.2.2.2.2.2.1), (471, r0.2.2.2.2.2.2.2.2.2)]) (q_ws E [])) := by
  rw [f_X2_takeOver] at hf
  refine q_Ct_of ok_X2_takeOver (Nat.le_of_ble_eq_true rfl) ?_ _ rfl rfl
  change q_J g m_X2_takeOver d 0 0 _ [] _ 0 0 (q_kc (t, r, m, z, N, ext, rx, L) I E 0 [some (.ref 457), some (.int x1), none, none] [] [] [])
  refine q_blk 3 [] (c' := q_kc (t, r, m, z, N, ext, rx, L) I E 3 [some (.ref 457), some (.int x1), none, none] [.int x1, .ref 458] [] []) ok_X2_takeOver rfl q_cn ?_
  obtain ⟨r1, hr1, hf⟩ := q_bd hf
  refine q_kV (M2 := m_X1_liesInHalf) (As := [.int x1]) (b := 458) (v2 := some (.int (q_bz r1))) ok_X2_takeOver ok_X1_liesInHalf cv_X1_liesInHalf (ct_X1_liesInHalf_458 (d := 1) (Nat.le_refl _) hr1) rfl rfl (Or.inl rfl) rfl rfl rfl rfl (Nat.le_trans (Nat.le_of_ble_eq_true rfl) hd) (Nat.le_of_ble_eq_true rfl) (Nat.le_of_ble_eq_true rfl) (Nat.le_of_ble_eq_true rfl) (fun x hx => absurd hx List.not_mem_nil) (q_nmL0 _) (q_nmS0 _) rfl (pos' := 4) (st' := [.int (q_bz r1)]) (lI' := []) (lE' := []) rfl rfl rfl rfl ?_
  refine q_blf 0 [] (a := q_kc (t, r, m, z, N, ext, rx, L) I E 11 [some (.ref 457), some (.int x1), none, none] [] [] []) (b := q_kc (t, r, m, z, N, ext, rx, L) I E 5 [some (.ref 457), some (.int x1), none, none] [] [] []) (P := (q_bz r1) = 0) ok_X2_takeOver rfl q_cn (fun h2 => ?_) (fun h2 => ?_)
  · have hf := q_ip h2 hf
    cases hf
    exact q_krv ok_X2_takeOver rfl rfl (Nat.le_of_ble_eq_true rfl) (Nat.le_of_ble_eq_true rfl) ⟨rfl, q_hpe (q_fin [457, 459, 460, 462, 465, 466, 467, 468, 469, 471] rfl) (q_fin [] rfl)⟩
  · have hf := q_in h2 hf
    refine q_blk 4 [] (c' := q_kc (t, r, m, z, N, ext, rx, L) I E 9 [some (.ref 457), some (.int x1), none, none] [.int (0 : Int32), .int x1, .ref 467] [] []) ok_X2_takeOver rfl q_cn ?_
    obtain ⟨r3, hr3, hf⟩ := q_bd hf
    refine q_kV (M2 := m_X4_add) (As := [.int x1, .int (0 : Int32)]) (b := 467) (v2 := some (.int (q_bz r3.1))) ok_X2_takeOver ok_X4_add cv_X4_add (ct_X4_add_467 (d := 1) (Nat.le_refl _) hr3) rfl rfl (Or.inl rfl) rfl rfl rfl rfl (Nat.le_trans (Nat.le_of_ble_eq_true rfl) hd) (Nat.le_of_ble_eq_true rfl) (Nat.le_of_ble_eq_true rfl) (Nat.le_of_ble_eq_true rfl) (fun x hx => absurd hx List.not_mem_nil) (q_nmL0 _) (q_nmS0 _) rfl (pos' := 10) (st' := [.int (q_bz r3.1)]) (lI' := [(467, r3.2.1), (468, r3.2.2.1), (469, r3.2.2.2)]) (lE' := []) rfl rfl rfl rfl ?_
    refine q_blf 0 [] (a := q_kc (t, r, m, z, N, ext, rx, L) I E 12 [some (.ref 457), some (.int x1), none, none] [] [(467, r3.2.1), (468, r3.2.2.1), (469, r3.2.2.2)] []) (b := q_kc (t, r, m, z, N, ext, rx, L) I E 11 [some (.ref 457), some (.int x1), none, none] [] [(467, r3.2.1), (468, r3.2.2.1), (469, r3.2.2.2)] []) (P := ¬ (q_bz r3.1) = 0) ok_X2_takeOver rfl q_cn (fun h4 => ?_) (fun h4 => ?_)
    · have hf := q_ip h4 hf
      refine q_blk 3 [] (c' := q_kc (t, r, m, z, N, ext, rx, L) I E 15 [some (.ref 457), some (.int x1), none, none] [.int x1, .ref 458] [(467, r3.2.1), (468, r3.2.2.1), (469, r3.2.2.2)] []) ok_X2_takeOver rfl q_cn ?_
      obtain ⟨r5, hr5, hf⟩ := q_bd hf
      refine q_kV (M2 := m_X1_size) (As := [.int x1]) (b := 458) (v2 := some (.int r5)) ok_X2_takeOver ok_X1_size cv_X1_size (ct_X1_size_458 (d := 1) (Nat.le_refl _) hr5) rfl rfl (Or.inl rfl) rfl rfl rfl rfl (Nat.le_trans (Nat.le_of_ble_eq_true rfl) hd) (Nat.le_of_ble_eq_true rfl) (Nat.le_of_ble_eq_true rfl) (Nat.le_of_ble_eq_true rfl) (fun x hx => absurd hx List.not_mem_nil) (q_nmL0 _) (q_nmS0 _) rfl (pos' := 16) (st' := [.int r5]) (lI' := [(467, r3.2.1), (468, r3.2.2.1), (469, r3.2.2.2)]) (lE' := []) rfl rfl rfl rfl ?_
      refine q_blk 4 [] (c' := q_kc (t, r, m, z, N, ext, rx, L) I E 20 [some (.ref 457), some (.int x1), some (.int r5), none] [.int x1, .ref 458] [(467, r3.2.1), (468, r3.2.2.1), (469, r3.2.2.2)] []) ok_X2_takeOver rfl q_cn ?_
      obtain ⟨r6, hr6, hf⟩ := q_bd hf
      refine q_kV (M2 := m_X1_age) (As := [.int x1]) (b := 458) (v2 := some (.int r6)) ok_X2_takeOver ok_X1_age cv_X1_age (ct_X1_age_458 (d := 1) (Nat.le_refl _) hr6) rfl rfl (Or.inl rfl) rfl rfl rfl rfl (Nat.le_trans (Nat.le_of_ble_eq_true rfl) hd) (Nat.le_of_ble_eq_true rfl) (Nat.le_of_ble_eq_true rfl) (Nat.le_of_ble_eq_true rfl) (fun x hx => absurd hx List.not_mem_nil) (q_nmL0 _) (q_nmS0 _) rfl (pos' := 21) (st' := [.int r6]) (lI' := [(467, r3.2.1), (468, r3.2.2.1), (469, r3.2.2.2)]) (lE' := []) rfl rfl rfl rfl ?_
      refine q_blf 3 [] (a := q_kc (t, r, m, z, N, ext, rx, L) I E 30 [some (.ref 457), some (.int x1), some (.int r5), none] [] [(467, r3.2.1), (468, r3.2.2.1), (469, r3.2.2.2)] []) (b := q_kc (t, r, m, z, N, ext, rx, L) I E 25 [some (.ref 457), some (.int x1), some (.int r5), none] [] [(467, r3.2.1), (468, r3.2.2.1), (469, r3.2.2.2)] []) (P := r6 < ((I 402) 2)) ok_X2_takeOver rfl q_cn (fun h7 => ?_) (fun h7 => ?_)
      · have hf := q_ip h7 hf
        refine q_blf 4 [] (a := q_kc (t, r, m, z, N, ext, rx, L) I E 46 [some (.ref 457), some (.int x1), some (.int r5), some (.int (-1 : Int32))] [] [(467, r3.2.1), (468, r3.2.2.1), (469, r3.2.2.2)] []) (b := q_kc (t, r, m, z, N, ext, rx, L) I E 35 [some (.ref 457), some (.int x1), some (.int r5), some (.int (-1 : Int32))] [] [(467, r3.2.1), (468, r3.2.2.1), (469, r3.2.2.2)] []) (P := ¬ (-1 : Int32) = (-1 : Int32)) ok_X2_takeOver rfl q_cn (fun h8 => ?_) (fun h8 => ?_)
        · have hf := q_ip h8 hf
          refine q_blk 4 [] (c' := q_kc (t, r, m, z, N, ext, rx, L) I E 50 [some (.ref 457), some (.int x1), some (.int r5), some (.int (-1 : Int32))] [.int (-1 : Int32), .int x1, .ref 458] [(467, r3.2.1), (468, r3.2.2.1), (469, r3.2.2.2)] []) ok_X2_takeOver rfl q_cn ?_
          obtain ⟨r9, hr9, hf⟩ := q_bd hf
          refine q_kV (M2 := m_X1_promoteTo) (As := [.int x1, .int (-1 : Int32)]) (b := 458) (v2 := none) ok_X2_takeOver ok_X1_promoteTo cv_X1_promoteTo (ct_X1_promoteTo_458 (d := 1) (Nat.le_refl _) hr9) rfl rfl (Or.inl rfl) rfl rfl rfl rfl (Nat.le_trans (Nat.le_of_ble_eq_true rfl) hd) (Nat.le_of_ble_eq_true rfl) (Nat.le_of_ble_eq_true rfl) (Nat.le_of_ble_eq_true rfl) (fun x hx => absurd hx List.not_mem_nil) (q_nmL0 _) (q_nmS0 _) rfl (pos' := 51) (st' := []) (lI' := [(459, r9.1), (460, r9.2), (467, r3.2.1), (468, r3.2.2.1), (469, r3.2.2.2)]) (lE' := []) rfl rfl rfl rfl ?_
          refine q_blk 5 [] (c' := q_kc (t, r, m, z, N, ext, rx, L) I E 56 [some (.ref 457), some (.int x1), some (.int r5), some (.int (-1 : Int32))] [.int r5, .int (-1 : Int32), .int x1, .ref 465] [(459, r9.1), (460, r9.2), (467, r3.2.1), (468, r3.2.2.1), (469, r3.2.2.2)] []) ok_X2_takeOver rfl q_cn ?_
          obtain ⟨r10, hr10, hf⟩ := q_bd hf
          refine q_kV (M2 := m_X5_lay) (As := [.int x1, .int (-1 : Int32), .int r5]) (b := 465) (v2 := none) ok_X2_takeOver ok_X5_lay cv_X5_lay (ct_X5_lay_465 (d := 1) (Nat.le_refl _) hr10) rfl rfl (Or.inl rfl) rfl rfl rfl rfl (Nat.le_trans (Nat.le_of_ble_eq_true rfl) hd) (Nat.le_of_ble_eq_true rfl) (Nat.le_of_ble_eq_true rfl) (Nat.le_of_ble_eq_true rfl) (fun x hx => absurd hx List.not_mem_nil) (q_nmL0 _) (q_nmS0 _) rfl (pos' := 57) (st' := []) (lI' := [(459, r9.1), (460, r9.2), (465, r10.1), (466, r10.2), (467, r3.2.1), (468, r3.2.2.1), (469, r3.2.2.2)]) (lE' := []) rfl rfl rfl rfl ?_
          refine q_blk 6 [] (c' := q_kc (t, r, m, z, N, ext, rx, L) I E 63 [some (.ref 457), some (.int x1), some (.int r5), some (.int (-1 : Int32))] [] [(457, (q_up (I 457) 13 (((I 457) 13) + (1 : Int32)))), (459, r9.1), (460, r9.2), (465, r10.1), (466, r10.2), (467, r3.2.1), (468, r3.2.2.1), (469, r3.2.2.2)] []) ok_X2_takeOver rfl q_cn ?_
          cases hf
          exact q_krv ok_X2_takeOver rfl rfl (Nat.le_of_ble_eq_true rfl) (Nat.le_of_ble_eq_true rfl) ⟨rfl, q_hpe (q_fin [457, 459, 460, 462, 465, 466, 467, 468, 469, 471] rfl) (q_fin [] rfl)⟩
        · have hf := q_in h8 hf
          refine q_blk 5 [] (c' := q_kc (t, r, m, z, N, ext, rx, L) I E 40 [some (.ref 457), some (.int x1), some (.int r5), some (.int (-1 : Int32))] [.int ((I 457) 8), .int x1, .ref 458] [(467, r3.2.1), (468, r3.2.2.1), (469, r3.2.2.2)] []) ok_X2_takeOver rfl q_cn ?_
          obtain ⟨r11, hr11, hf⟩ := q_bd hf
          refine q_kV (M2 := m_X1_copyTo) (As := [.int x1, .int ((I 457) 8)]) (b := 458) (v2 := none) ok_X2_takeOver ok_X1_copyTo cv_X1_copyTo (ct_X1_copyTo_458 (d := 1) (Nat.le_refl _) hr11) rfl rfl (Or.inl rfl) rfl rfl rfl rfl (Nat.le_trans (Nat.le_of_ble_eq_true rfl) hd) (Nat.le_of_ble_eq_true rfl) (Nat.le_of_ble_eq_true rfl) (Nat.le_of_ble_eq_true rfl) (fun x hx => absurd hx List.not_mem_nil) (q_nmL0 _) (q_nmS0 _) rfl (pos' := 41) (st' := []) (lI' := [(460, r11.1), (462, r11.2), (467, r3.2.1), (468, r3.2.2.1), (469, r3.2.2.2)]) (lE' := []) rfl rfl rfl rfl ?_
          refine q_blk 3 [] (c' := q_kc (t, r, m, z, N, ext, rx, L) I E 44 [some (.ref 457), some (.int x1), some (.int r5), some (.int (-1 : Int32))] [.int r5, .int x1, .ref 457] [(460, r11.1), (462, r11.2), (467, r3.2.1), (468, r3.2.2.1), (469, r3.2.2.2)] []) ok_X2_takeOver rfl q_cn ?_
          obtain ⟨r12, hr12, hf⟩ := q_bd hf
          refine q_kV (M2 := m_X2_layInRow) (As := [.int x1, .int r5]) (b := 457) (v2 := none) ok_X2_takeOver ok_X2_layInRow cv_X2_layInRow (ct_X2_layInRow_457 (d := 1) (Nat.le_refl _) hr12) rfl rfl (Or.inl rfl) rfl rfl rfl rfl (Nat.le_trans (Nat.le_of_ble_eq_true rfl) hd) (Nat.le_of_ble_eq_true rfl) (Nat.le_of_ble_eq_true rfl) (Nat.le_of_ble_eq_true rfl) (fun x hx => absurd hx List.not_mem_nil) (q_nmL0 _) (q_nmS0 _) rfl (pos' := 45) (st' := []) (lI' := [(457, r12.1), (460, r11.1), (462, r11.2), (467, r3.2.1), (468, r3.2.2.1), (469, r3.2.2.2), (471, r12.2)]) (lE' := []) rfl rfl rfl rfl ?_
          refine q_blk 1 [] (c' := q_kc (t, r, m, z, N, ext, rx, L) I E 63 [some (.ref 457), some (.int x1), some (.int r5), some (.int (-1 : Int32))] [] [(457, r12.1), (460, r11.1), (462, r11.2), (467, r3.2.1), (468, r3.2.2.1), (469, r3.2.2.2), (471, r12.2)] []) ok_X2_takeOver rfl q_cn ?_
          cases hf
          exact q_krv ok_X2_takeOver rfl rfl (Nat.le_of_ble_eq_true rfl) (Nat.le_of_ble_eq_true rfl) ⟨rfl, q_hpe (q_fin [457, 459, 460, 462, 465, 466, 467, 468, 469, 471] rfl) (q_fin [] rfl)⟩
      · have hf := q_in h7 hf
        refine q_blk 3 [] (c' := q_kc (t, r, m, z, N, ext, rx, L) I E 28 [some (.ref 457), some (.int x1), some (.int r5), none] [.int r5, .ref 465] [(467, r3.2.1), (468, r3.2.2.1), (469, r3.2.2.2)] []) ok_X2_takeOver rfl q_cn ?_
        obtain ⟨r13, hr13, hf⟩ := q_bd hf
        refine q_kV (M2 := m_X5_gapFor) (As := [.int r5]) (b := 465) (v2 := some (.int r13)) ok_X2_takeOver ok_X5_gapFor cv_X5_gapFor (ct_X5_gapFor_465 (d := 1) (Nat.le_refl _) hr13) rfl rfl (Or.inl rfl) rfl rfl rfl rfl (Nat.le_trans (Nat.le_of_ble_eq_true rfl) hd) (Nat.le_of_ble_eq_true rfl) (Nat.le_of_ble_eq_true rfl) (Nat.le_of_ble_eq_true rfl) (fun x hx => absurd hx List.not_mem_nil) (q_nmL0 _) (q_nmS0 _) rfl (pos' := 29) (st' := [.int r13]) (lI' := [(467, r3.2.1), (468, r3.2.2.1), (469, r3.2.2.2)]) (lE' := []) rfl rfl rfl rfl ?_
        refine q_blf 4 [] (a := q_kc (t, r, m, z, N, ext, rx, L) I E 46 [some (.ref 457), some (.int x1), some (.int r5), some (.int r13)] [] [(467, r3.2.1), (468, r3.2.2.1), (469, r3.2.2.2)] []) (b := q_kc (t, r, m, z, N, ext, rx, L) I E 35 [some (.ref 457), some (.int x1), some (.int r5), some (.int r13)] [] [(467, r3.2.1), (468, r3.2.2.1), (469, r3.2.2.2)] []) (P := ¬ r13 = (-1 : Int32)) ok_X2_takeOver rfl q_cn (fun h14 => ?_) (fun h14 => ?_)
        · have hf := q_ip h14 hf
          refine q_blk 4 [] (c' := q_kc (t, r, m, z, N, ext, rx, L) I E 50 [some (.ref 457), some (.int x1), some (.int r5), some (.int r13)] [.int r13, .int x1, .ref 458] [(467, r3.2.1), (468, r3.2.2.1), (469, r3.2.2.2)] []) ok_X2_takeOver rfl q_cn ?_
          obtain ⟨r15, hr15, hf⟩ := q_bd hf
          refine q_kV (M2 := m_X1_promoteTo) (As := [.int x1, .int r13]) (b := 458) (v2 := none) ok_X2_takeOver ok_X1_promoteTo cv_X1_promoteTo (ct_X1_promoteTo_458 (d := 1) (Nat.le_refl _) hr15) rfl rfl (Or.inl rfl) rfl rfl rfl rfl (Nat.le_trans (Nat.le_of_ble_eq_true rfl) hd) (Nat.le_of_ble_eq_true rfl) (Nat.le_of_ble_eq_true rfl) (Nat.le_of_ble_eq_true rfl) (fun x hx => absurd hx List.not_mem_nil) (q_nmL0 _) (q_nmS0 _) rfl (pos' := 51) (st' := []) (lI' := [(459, r15.1), (460, r15.2), (467, r3.2.1), (468, r3.2.2.1), (469, r3.2.2.2)]) (lE' := []) rfl rfl rfl rfl ?_
          refine q_blk 5 [] (c' := q_kc (t, r, m, z, N, ext, rx, L) I E 56 [some (.ref 457), some (.int x1), some (.int r5), some (.int r13)] [.int r5, .int r13, .int x1, .ref 465] [(459, r15.1), (460, r15.2), (467, r3.2.1), (468, r3.2.2.1), (469, r3.2.2.2)] []) ok_X2_takeOver rfl q_cn ?_
          obtain ⟨r16, hr16, hf⟩ := q_bd hf
          refine q_kV (M2 := m_X5_lay) (As := [.int x1, .int r13, .int r5]) (b := 465) (v2 := none) ok_X2_takeOver ok_X5_lay cv_X5_lay (ct_X5_lay_465 (d := 1) (Nat.le_refl _) hr16) rfl rfl (Or.inl rfl) rfl rfl rfl rfl (Nat.le_trans (Nat.le_of_ble_eq_true rfl) hd) (Nat.le_of_ble_eq_true rfl) (Nat.le_of_ble_eq_true rfl) (Nat.le_of_ble_eq_true rfl) (fun x hx => absurd hx List.not_mem_nil) (q_nmL0 _) (q_nmS0 _) rfl (pos' := 57) (st' := []) (lI' := [(459, r15.1), (460, r15.2), (465, r16.1), (466, r16.2), (467, r3.2.1), (468, r3.2.2.1), (469, r3.2.2.2)]) (lE' := []) rfl rfl rfl rfl ?_
          refine q_blk 6 [] (c' := q_kc (t, r, m, z, N, ext, rx, L) I E 63 [some (.ref 457), some (.int x1), some (.int r5), some (.int r13)] [] [(457, (q_up (I 457) 13 (((I 457) 13) + (1 : Int32)))), (459, r15.1), (460, r15.2), (465, r16.1), (466, r16.2), (467, r3.2.1), (468, r3.2.2.1), (469, r3.2.2.2)] []) ok_X2_takeOver rfl q_cn ?_
          cases hf
          exact q_krv ok_X2_takeOver rfl rfl (Nat.le_of_ble_eq_true rfl) (Nat.le_of_ble_eq_true rfl) ⟨rfl, q_hpe (q_fin [457, 459, 460, 462, 465, 466, 467, 468, 469, 471] rfl) (q_fin [] rfl)⟩
        · have hf := q_in h14 hf
          refine q_blk 5 [] (c' := q_kc (t, r, m, z, N, ext, rx, L) I E 40 [some (.ref 457), some (.int x1), some (.int r5), some (.int r13)] [.int ((I 457) 8), .int x1, .ref 458] [(467, r3.2.1), (468, r3.2.2.1), (469, r3.2.2.2)] []) ok_X2_takeOver rfl q_cn ?_
          obtain ⟨r17, hr17, hf⟩ := q_bd hf
          refine q_kV (M2 := m_X1_copyTo) (As := [.int x1, .int ((I 457) 8)]) (b := 458) (v2 := none) ok_X2_takeOver ok_X1_copyTo cv_X1_copyTo (ct_X1_copyTo_458 (d := 1) (Nat.le_refl _) hr17) rfl rfl (Or.inl rfl) rfl rfl rfl rfl (Nat.le_trans (Nat.le_of_ble_eq_true rfl) hd) (Nat.le_of_ble_eq_true rfl) (Nat.le_of_ble_eq_true rfl) (Nat.le_of_ble_eq_true rfl) (fun x hx => absurd hx List.not_mem_nil) (q_nmL0 _) (q_nmS0 _) rfl (pos' := 41) (st' := []) (lI' := [(460, r17.1), (462, r17.2), (467, r3.2.1), (468, r3.2.2.1), (469, r3.2.2.2)]) (lE' := []) rfl rfl rfl rfl ?_
          refine q_blk 3 [] (c' := q_kc (t, r, m, z, N, ext, rx, L) I E 44 [some (.ref 457), some (.int x1), some (.int r5), some (.int r13)] [.int r5, .int x1, .ref 457] [(460, r17.1), (462, r17.2), (467, r3.2.1), (468, r3.2.2.1), (469, r3.2.2.2)] []) ok_X2_takeOver rfl q_cn ?_
          obtain ⟨r18, hr18, hf⟩ := q_bd hf
          refine q_kV (M2 := m_X2_layInRow) (As := [.int x1, .int r5]) (b := 457) (v2 := none) ok_X2_takeOver ok_X2_layInRow cv_X2_layInRow (ct_X2_layInRow_457 (d := 1) (Nat.le_refl _) hr18) rfl rfl (Or.inl rfl) rfl rfl rfl rfl (Nat.le_trans (Nat.le_of_ble_eq_true rfl) hd) (Nat.le_of_ble_eq_true rfl) (Nat.le_of_ble_eq_true rfl) (Nat.le_of_ble_eq_true rfl) (fun x hx => absurd hx List.not_mem_nil) (q_nmL0 _) (q_nmS0 _) rfl (pos' := 45) (st' := []) (lI' := [(457, r18.1), (460, r17.1), (462, r17.2), (467, r3.2.1), (468, r3.2.2.1), (469, r3.2.2.2), (471, r18.2)]) (lE' := []) rfl rfl rfl rfl ?_
          refine q_blk 1 [] (c' := q_kc (t, r, m, z, N, ext, rx, L) I E 63 [some (.ref 457), some (.int x1), some (.int r5), some (.int r13)] [] [(457, r18.1), (460, r17.1), (462, r17.2), (467, r3.2.1), (468, r3.2.2.1), (469, r3.2.2.2), (471, r18.2)] []) ok_X2_takeOver rfl q_cn ?_
          cases hf
          exact q_krv ok_X2_takeOver rfl rfl (Nat.le_of_ble_eq_true rfl) (Nat.le_of_ble_eq_true rfl) ⟨rfl, q_hpe (q_fin [457, 459, 460, 462, 465, 466, 467, 468, 469, 471] rfl) (q_fin [] rfl)⟩
    · have hf := q_in h4 hf
      cases hf
      exact q_krv ok_X2_takeOver rfl rfl (Nat.le_of_ble_eq_true rfl) (Nat.le_of_ble_eq_true rfl) ⟨rfl, q_hpe (q_fin [457, 459, 460, 462, 465, 466, 467, 468, 469, 471] rfl) (q_fin [] rfl)⟩
set_option maxHeartbeats 4000000 in
theorem ct_X2_loftBaleFrom_457 {g : q_G} {t : Nat} {r : Nat} {m : Nat} {z : Nat} {N : Nat} {ext : Nat → q_Sh} {rx : Nat → Nat → Option Nat} {L : Nat → Nat → Int64} {d : Nat} (hd : 2 ≤ d)  {I : Nat → Nat → Int32} {E : Nat → Nat → Option Nat} {x1 : Int32} {r0 : Int32} (hf : f_X2_loftBaleFrom (I 460) (I 465) (I 466) x1 = some r0) : q_Ct g m_X2_loftBaleFrom d 0 0 [] [.ref 457, .int x1] (q_hp (t, r, m, z, N, ext, rx, L) I E) (fun o h' => o = .inl (some (.int r0)) ∧ h' = q_hp (t, r, m, z, N, ext, rx, L) (q_ws I []) (q_ws E [])) := by
  rw [f_X2_loftBaleFrom] at hf
  refine q_Ct_of ok_X2_loftBaleFrom (Nat.le_of_ble_eq_true rfl) ?_ _ rfl rfl
  change q_J g m_X2_loftBaleFrom d 0 0 _ [] _ 0 0 (q_kc (t, r, m, z, N, ext, rx, L) I E 0 [some (.ref 457), some (.int x1), none] [] [] [])
  refine q_blk 3 [] (c' := q_kc (t, r, m, z, N, ext, rx, L) I E 3 [some (.ref 457), some (.int x1), none] [.int x1, .ref 465] [] []) ok_X2_loftBaleFrom rfl q_cn ?_
  obtain ⟨r1, hr1, hf⟩ := q_bd hf
  refine q_kV (M2 := m_X5_at) (As := [.int x1]) (b := 465) (v2 := some (.int r1)) ok_X2_loftBaleFrom ok_X5_at cv_X5_at (ct_X5_at_465 (d := 1) (Nat.le_refl _) hr1) rfl rfl (Or.inl rfl) rfl rfl rfl rfl (Nat.le_trans (Nat.le_of_ble_eq_true rfl) hd) (Nat.le_of_ble_eq_true rfl) (Nat.le_of_ble_eq_true rfl) (Nat.le_of_ble_eq_true rfl) (fun x hx => absurd hx List.not_mem_nil) (q_nmL0 _) (q_nmS0 _) rfl (pos' := 4) (st' := [.int r1]) (lI' := []) (lE' := []) rfl rfl rfl rfl ?_
  refine q_blf 3 [] (a := q_kc (t, r, m, z, N, ext, rx, L) I E 16 [some (.ref 457), some (.int x1), some (.int r1)] [] [] []) (b := q_kc (t, r, m, z, N, ext, rx, L) I E 8 [some (.ref 457), some (.int x1), some (.int r1)] [] [] []) (P := r1 = (-1 : Int32)) ok_X2_loftBaleFrom rfl q_cn (fun h2 => ?_) (fun h2 => ?_)
  · have hf := q_ip h2 hf
    refine q_blk 1 [] (c' := q_kc (t, r, m, z, N, ext, rx, L) I E 17 [some (.ref 457), some (.int x1), some (.int r1)] [.int (-1 : Int32)] [] []) ok_X2_loftBaleFrom rfl q_cn ?_
    cases hf
    exact q_kri ok_X2_loftBaleFrom rfl rfl rfl (Nat.le_of_ble_eq_true rfl) (Nat.le_of_ble_eq_true rfl) ⟨rfl, q_hpe (q_fin [] rfl) (q_fin [] rfl)⟩
  · have hf := q_in h2 hf
    refine q_blk 3 [] (c' := q_kc (t, r, m, z, N, ext, rx, L) I E 11 [some (.ref 457), some (.int x1), some (.int r1)] [.int r1, .ref 458] [] []) ok_X2_loftBaleFrom rfl q_cn ?_
    obtain ⟨r3, hr3, hf⟩ := q_bd hf
    refine q_kV (M2 := m_X1_place) (As := [.int r1]) (b := 458) (v2 := some (.int r3)) ok_X2_loftBaleFrom ok_X1_place cv_X1_place (ct_X1_place_458 (d := 1) (Nat.le_refl _) hr3) rfl rfl (Or.inl rfl) rfl rfl rfl rfl (Nat.le_trans (Nat.le_of_ble_eq_true rfl) hd) (Nat.le_of_ble_eq_true rfl) (Nat.le_of_ble_eq_true rfl) (Nat.le_of_ble_eq_true rfl) (fun x hx => absurd hx List.not_mem_nil) (q_nmL0 _) (q_nmS0 _) rfl (pos' := 12) (st' := [.int r3]) (lI' := []) (lE' := []) rfl rfl rfl rfl ?_
    refine q_blf 1 [] (a := q_kc (t, r, m, z, N, ext, rx, L) I E 16 [some (.ref 457), some (.int x1), some (.int r1)] [] [] []) (b := q_kc (t, r, m, z, N, ext, rx, L) I E 14 [some (.ref 457), some (.int x1), some (.int r1)] [] [] []) (P := ¬ r3 = x1) ok_X2_loftBaleFrom rfl q_cn (fun h4 => ?_) (fun h4 => ?_)
    · have hf := q_ip h4 hf
      refine q_blk 1 [] (c' := q_kc (t, r, m, z, N, ext, rx, L) I E 17 [some (.ref 457), some (.int x1), some (.int r1)] [.int (-1 : Int32)] [] []) ok_X2_loftBaleFrom rfl q_cn ?_
      cases hf
      exact q_kri ok_X2_loftBaleFrom rfl rfl rfl (Nat.le_of_ble_eq_true rfl) (Nat.le_of_ble_eq_true rfl) ⟨rfl, q_hpe (q_fin [] rfl) (q_fin [] rfl)⟩
    · have hf := q_in h4 hf
      refine q_blk 2 [] (c' := q_kc (t, r, m, z, N, ext, rx, L) I E 17 [some (.ref 457), some (.int x1), some (.int r1)] [.int r1] [] []) ok_X2_loftBaleFrom rfl q_cn ?_
      cases hf
      exact q_kri ok_X2_loftBaleFrom rfl rfl rfl (Nat.le_of_ble_eq_true rfl) (Nat.le_of_ble_eq_true rfl) ⟨rfl, q_hpe (q_fin [] rfl) (q_fin [] rfl)⟩
set_option maxHeartbeats 4000000 in
theorem ct_X4_has_467 {g : q_G} {t : Nat} {r : Nat} {m : Nat} {z : Nat} {N : Nat} {ext : Nat → q_Sh} {rx : Nat → Nat → Option Nat} {L : Nat → Nat → Int64} {d : Nat} (hd : 1 ≤ d)  {I : Nat → Nat → Int32} {E : Nat → Nat → Option Nat} {x1 : Int32} {r0 : Bool} (hf : f_X4_has (I 469) x1 = some r0) : q_Ct g m_X4_has d 0 0 [] [.ref 467, .int x1] (q_hp (t, r, m, z, N, ext, rx, L) I E) (fun o h' => o = .inl (some (.int (q_bz r0))) ∧ h' = q_hp (t, r, m, z, N, ext, rx, L) (q_ws I []) (q_ws E [])) := by
  rw [f_X4_has] at hf
  refine q_Ct_of ok_X4_has (Nat.le_of_ble_eq_true rfl) ?_ _ rfl rfl
  change q_J g m_X4_has d 0 0 _ [] _ 0 0 (q_kc (t, r, m, z, N, ext, rx, L) I E 0 [some (.ref 467), some (.int x1)] [] [] [])
  refine q_blf 1 [] (a := q_kc (t, r, m, z, N, ext, rx, L) I E 13 [some (.ref 467), some (.int x1)] [] [] []) (b := q_kc (t, r, m, z, N, ext, rx, L) I E 2 [some (.ref 467), some (.int x1)] [] [] []) (P := x1 < 0) ok_X4_has rfl q_cn (fun h1 => ?_) (fun h1 => ?_)
  · have hf := q_ip h1 hf
    refine q_blk 1 [] (c' := q_kc (t, r, m, z, N, ext, rx, L) I E 14 [some (.ref 467), some (.int x1)] [.int (0 : Int32)] [] []) ok_X4_has rfl q_cn ?_
    cases hf
    exact q_kri ok_X4_has rfl rfl rfl (Nat.le_of_ble_eq_true rfl) (Nat.le_of_ble_eq_true rfl) ⟨rfl, q_hpe (q_fin [] rfl) (q_fin [] rfl)⟩
  · have hf := q_in h1 hf
    refine q_blf 2 [] (a := q_kc (t, r, m, z, N, ext, rx, L) I E 13 [some (.ref 467), some (.int x1)] [] [] []) (b := q_kc (t, r, m, z, N, ext, rx, L) I E 5 [some (.ref 467), some (.int x1)] [] [] []) (P := (128 : Int32) ≤ x1) ok_X4_has rfl q_cn (fun h2 => ?_) (fun h2 => ?_)
    · have hf := q_ip h2 hf
      refine q_blk 1 [] (c' := q_kc (t, r, m, z, N, ext, rx, L) I E 14 [some (.ref 467), some (.int x1)] [.int (0 : Int32)] [] []) ok_X4_has rfl q_cn ?_
      cases hf
      exact q_kri ok_X4_has rfl rfl rfl (Nat.le_of_ble_eq_true rfl) (Nat.le_of_ble_eq_true rfl) ⟨rfl, q_hpe (q_fin [] rfl) (q_fin [] rfl)⟩
    · have hf := q_in h2 hf
      obtain ⟨j3, hj3, hf⟩ := q_bd hf
      refine q_blf 5 [j3] (a := q_kc (t, r, m, z, N, ext, rx, L) I E 13 [some (.ref 467), some (.int x1)] [] [] []) (b := q_kc (t, r, m, z, N, ext, rx, L) I E 11 [some (.ref 467), some (.int x1)] [] [] []) (P := ((I 469) j3) = (-1 : Int32)) ok_X4_has rfl (q_cc hj3 q_cn) (fun h4 => ?_) (fun h4 => ?_)
      · have hf := q_ip h4 hf
        refine q_blk 1 [] (c' := q_kc (t, r, m, z, N, ext, rx, L) I E 14 [some (.ref 467), some (.int x1)] [.int (0 : Int32)] [] []) ok_X4_has rfl q_cn ?_
        cases hf
        exact q_kri ok_X4_has rfl rfl rfl (Nat.le_of_ble_eq_true rfl) (Nat.le_of_ble_eq_true rfl) ⟨rfl, q_hpe (q_fin [] rfl) (q_fin [] rfl)⟩
      · have hf := q_in h4 hf
        refine q_blk 2 [] (c' := q_kc (t, r, m, z, N, ext, rx, L) I E 14 [some (.ref 467), some (.int x1)] [.int (1 : Int32)] [] []) ok_X4_has rfl q_cn ?_
        cases hf
        exact q_kri ok_X4_has rfl rfl rfl (Nat.le_of_ble_eq_true rfl) (Nat.le_of_ble_eq_true rfl) ⟨rfl, q_hpe (q_fin [] rfl) (q_fin [] rfl)⟩
set_option maxHeartbeats 4000000 in
theorem ct_X1_remove_458 {g : q_G} {t : Nat} {r : Nat} {m : Nat} {z : Nat} {N : Nat} {ext : Nat → q_Sh} {rx : Nat → Nat → Option Nat} {L : Nat → Nat → Int64} {d : Nat} (hd : 1 ≤ d)  {I : Nat → Nat → Int32} {E : Nat → Nat → Option Nat} {x1 : Int32} {r0 : (Nat → Int32)} (hf : f_X1_remove (I 459) x1 = some r0) : q_Ct g m_X1_remove d 0 0 [] [.ref 458, .int x1] (q_hp (t, r, m, z, N, ext, rx, L) I E) (fun o h' => o = .inl none ∧ h' = q_hp (t, r, m, z, N, ext, rx, L) (q_ws I [(459, r0)]) (q_ws E [])) := by
  rw [f_X1_remove] at hf
  refine q_Ct_of ok_X1_remove (Nat.le_of_ble_eq_true rfl) ?_ _ rfl rfl
  change q_J g m_X1_remove d 0 0 _ [] _ 0 0 (q_kc (t, r, m, z, N, ext, rx, L) I E 0 [some (.ref 458), some (.int x1)] [] [] [])
  refine q_blf 1 [] (a := q_kc (t, r, m, z, N, ext, rx, L) I E 10 [some (.ref 458), some (.int x1)] [] [] []) (b := q_kc (t, r, m, z, N, ext, rx, L) I E 2 [some (.ref 458), some (.int x1)] [] [] []) (P := x1 < 0) ok_X1_remove rfl q_cn (fun h1 => ?_) (fun h1 => ?_)
  · have hf := q_ip h1 hf
    cases hf
    exact q_krv ok_X1_remove rfl rfl (Nat.le_of_ble_eq_true rfl) (Nat.le_of_ble_eq_true rfl) ⟨rfl, q_hpe (q_fin [459] rfl) (q_fin [] rfl)⟩
  · have hf := q_in h1 hf
    refine q_blf 2 [] (a := q_kc (t, r, m, z, N, ext, rx, L) I E 10 [some (.ref 458), some (.int x1)] [] [] []) (b := q_kc (t, r, m, z, N, ext, rx, L) I E 5 [some (.ref 458), some (.int x1)] [] [] []) (P := (128 : Int32) ≤ x1) ok_X1_remove rfl q_cn (fun h2 => ?_) (fun h2 => ?_)
    · have hf := q_ip h2 hf
      cases hf
      exact q_krv ok_X1_remove rfl rfl (Nat.le_of_ble_eq_true rfl) (Nat.le_of_ble_eq_true rfl) ⟨rfl, q_hpe (q_fin [459] rfl) (q_fin [] rfl)⟩
    · have hf := q_in h2 hf
      obtain ⟨j3, hj3, hf⟩ := q_bd hf
      refine q_blk 5 [j3] (c' := q_kc (t, r, m, z, N, ext, rx, L) I E 10 [some (.ref 458), some (.int x1)] [] [(459, (q_up (I 459) j3 (0 : Int32)))] []) ok_X1_remove rfl (q_cc hj3 q_cn) ?_
      cases hf
      exact q_krv ok_X1_remove rfl rfl (Nat.le_of_ble_eq_true rfl) (Nat.le_of_ble_eq_true rfl) ⟨rfl, q_hpe (q_fin [459] rfl) (q_fin [] rfl)⟩
set_option maxHeartbeats 4000000 in
theorem lp_X2_loseRest_L4_457_472 {g : q_G} {d mc ms : Nat} {h0 : q_H} {Q : (Option Value ⊕ String) → q_H → Prop} {k n : Nat} {t : Nat} {r : Nat} {m : Nat} {z : Nat} {N : Nat} {ext : Nat → q_Sh} {rx : Nat → Nat → Option Nat} {L : Nat → Nat → Int64} (hd : 2 ≤ d) (hk : k ≤ mc) (hn : n ≤ ms)  {v2 : Int32} : ∀ (fu : Nat) {I : Nat → Nat → Int32} {E : Nat → Nat → Option Nat} {v3 : Int32} {v4 : Int32} {r0 : Int32 × (Nat → Int32)} (hf : f_X2_loseRest_L4 (I 469) (I 472) v2 fu (I 459) v3 v4 = some r0) (hK0 : q_J g m_X2_loseRest d mc ms h0 [] Q k n (q_kc (t, r, m, z, N, ext, rx, L) I E 27 [some (.ref 457), none, none, some (.int r0.1), none] [] [(459, r0.2)] [])), q_J g m_X2_loseRest d mc ms h0 [] Q k n (4, [some (.ref 457), some (.ref 472), some (.int v2), some (.int v3), some (.int v4)], [], q_hp (t, r, m, z, N, ext, rx, L) I E) := by
  intro fu
  induction fu with
  | zero =>
    intro I E v3 v4 r0 hf hK0
    rw [f_X2_loseRest_L4] at hf
    cases hf
  | succ fu ih =>
    intro I E v3 v4 r0 hf hK0
    rw [f_X2_loseRest_L4] at hf
    change q_J g m_X2_loseRest d mc ms h0 [] Q k n (q_kc (t, r, m, z, N, ext, rx, L) I E 4 [some (.ref 457), some (.ref 472), some (.int v2), some (.int v3), some (.int v4)] [] [] [])
    refine q_blf 2 [] (a := q_kc (t, r, m, z, N, ext, rx, L) I E 27 [some (.ref 457), some (.ref 472), some (.int v2), some (.int v3), some (.int v4)] [] [] []) (b := q_kc (t, r, m, z, N, ext, rx, L) I E 7 [some (.ref 457), some (.ref 472), some (.int v2), some (.int v3), some (.int v4)] [] [] []) (P := v2 ≤ v4) ok_X2_loseRest rfl q_cn (fun h1 => ?_) (fun h1 => ?_)
    · have hf := q_ip h1 hf
      refine q_less (ls' := [some (.ref 457), none, none, some (.int v3), none]) (q_sb2 (q_sb1 (q_sb1 (q_sb2 (q_sb1 q_sb0))))) ?_
      cases hf
      exact q_Jpad [459] [] rfl rfl hK0
    · have hf := q_in h1 hf
      refine q_blf 3 [] (a := q_kc (t, r, m, z, N, ext, rx, L) I E 27 [some (.ref 457), some (.ref 472), some (.int v2), some (.int v3), some (.int v4)] [] [] []) (b := q_kc (t, r, m, z, N, ext, rx, L) I E 11 [some (.ref 457), some (.ref 472), some (.int v2), some (.int v3), some (.int v4)] [] [] []) (P := (nI 64) ≤ v4) ok_X2_loseRest rfl q_cn (fun h2 => ?_) (fun h2 => ?_)
      · have hf := q_ip h2 hf
        refine q_less (ls' := [some (.ref 457), none, none, some (.int v3), none]) (q_sb2 (q_sb1 (q_sb1 (q_sb2 (q_sb1 q_sb0))))) ?_
        cases hf
        exact q_Jpad [459] [] rfl rfl hK0
      · have hf := q_in h2 hf
        obtain ⟨j3, hj3, hf⟩ := q_bd hf
        refine q_blk 5 [j3] (c' := q_kc (t, r, m, z, N, ext, rx, L) I E 16 [some (.ref 457), some (.ref 472), some (.int v2), some (.int v3), some (.int v4)] [.int ((I 472) j3), .ref 467] [] []) ok_X2_loseRest rfl (q_cc hj3 q_cn) ?_
        obtain ⟨r4, hr4, hf⟩ := q_bd hf
        refine q_kV (M2 := m_X4_has) (As := [.int ((I 472) j3)]) (b := 467) (v2 := some (.int (q_bz r4))) ok_X2_loseRest ok_X4_has cv_X4_has (ct_X4_has_467 (d := 1) (Nat.le_refl _) hr4) rfl rfl (Or.inl rfl) rfl rfl rfl rfl (Nat.le_trans (Nat.le_of_ble_eq_true rfl) hd) hk hn (Nat.le_of_ble_eq_true rfl) (fun x hx => absurd hx List.not_mem_nil) (q_nmL0 _) (q_nmS0 _) rfl (pos' := 17) (st' := [.int (q_bz r4)]) (lI' := []) (lE' := []) rfl rfl rfl rfl ?_
        refine q_blf 0 [] (a := q_kc (t, r, m, z, N, ext, rx, L) I E 25 [some (.ref 457), some (.ref 472), some (.int v2), some (.int v3), some (.int v4)] [] [] []) (b := q_kc (t, r, m, z, N, ext, rx, L) I E 18 [some (.ref 457), some (.ref 472), some (.int v2), some (.int v3), some (.int v4)] [] [] []) (P := ¬ (q_bz r4) = 0) ok_X2_loseRest rfl q_cn (fun h5 => ?_) (fun h5 => ?_)
        · have hf := q_ip h5 hf
          refine q_blk 2 [] (c' := q_kc (t, r, m, z, N, ext, rx, L) I E 4 [some (.ref 457), some (.ref 472), some (.int v2), some (.int v3), some (.int (v4 + 1))] [] [] []) ok_X2_loseRest rfl q_cn ?_
          exact ih (I := q_ws I []) (E := q_ws E []) hf (q_Jmrg rfl rfl hK0)
        · have hf := q_in h5 hf
          obtain ⟨j6, hj6, hf⟩ := q_bd hf
          refine q_blk 5 [j6] (c' := q_kc (t, r, m, z, N, ext, rx, L) I E 23 [some (.ref 457), some (.ref 472), some (.int v2), some (.int v3), some (.int v4)] [.int ((I 472) j6), .ref 458] [] []) ok_X2_loseRest rfl (q_cc hj6 q_cn) ?_
          obtain ⟨r7, hr7, hf⟩ := q_bd hf
          refine q_kV (M2 := m_X1_remove) (As := [.int ((I 472) j6)]) (b := 458) (v2 := none) ok_X2_loseRest ok_X1_remove cv_X1_remove (ct_X1_remove_458 (d := 1) (Nat.le_refl _) hr7) rfl rfl (Or.inl rfl) rfl rfl rfl rfl (Nat.le_trans (Nat.le_of_ble_eq_true rfl) hd) hk hn (Nat.le_of_ble_eq_true rfl) (fun x hx => absurd hx List.not_mem_nil) (q_nmL0 _) (q_nmS0 _) rfl (pos' := 24) (st' := []) (lI' := [(459, r7)]) (lE' := []) rfl rfl rfl rfl ?_
          refine q_blk 3 [] (c' := q_kc (t, r, m, z, N, ext, rx, L) I E 4 [some (.ref 457), some (.ref 472), some (.int v2), some (.int (v3 + 1)), some (.int (v4 + 1))] [] [(459, r7)] []) ok_X2_loseRest rfl q_cn ?_
          exact ih (I := q_ws I [(459, r7)]) (E := q_ws E []) hf (q_Jmrg rfl rfl hK0)
set_option maxHeartbeats 4000000 in
theorem ct_X2_loseRest_457_472 {g : q_G} {t : Nat} {r : Nat} {m : Nat} {z : Nat} {N : Nat} {ext : Nat → q_Sh} {rx : Nat → Nat → Option Nat} {L : Nat → Nat → Int64} {d : Nat} (hd : 2 ≤ d)  {I : Nat → Nat → Int32} {E : Nat → Nat → Option Nat} {x2 : Int32} {r0 : Int32 × (Nat → Int32) × (Nat → Int32)} (hf : f_X2_loseRest (I 457) (I 459) (I 469) (I 472) x2 = some r0) : q_Ct g m_X2_loseRest d 0 0 [] [.ref 457, .ref 472, .int x2] (q_hp (t, r, m, z, N, ext, rx, L) I E) (fun o h' => o = .inl (some (.int r0.1)) ∧ h' = q_hp (t, r, m, z, N, ext, rx, L) (q_ws I [(457, r0.2.1), (459, r0.2.2)]) (q_ws E [])) := by
  rw [f_X2_loseRest] at hf
  refine q_Ct_of ok_X2_loseRest (Nat.le_of_ble_eq_true rfl) ?_ _ rfl rfl
  change q_J g m_X2_loseRest d 0 0 _ [] _ 0 0 (q_kc (t, r, m, z, N, ext, rx, L) I E 0 [some (.ref 457), some (.ref 472), some (.int x2), none, none] [] [] [])
  refine q_blk 4 [] (c' := q_kc (t, r, m, z, N, ext, rx, L) I E 4 [some (.ref 457), some (.ref 472), some (.int x2), some (.int (0 : Int32)), some (.int (0 : Int32))] [] [] []) ok_X2_loseRest rfl q_cn ?_
  obtain ⟨r8, hr8, hf⟩ := q_bd hf
  refine lp_X2_loseRest_L4_457_472 (I := q_ws I []) (E := q_ws E []) hd (Nat.le_of_ble_eq_true rfl) (Nat.le_of_ble_eq_true rfl) 4096 hr8 ?_
  refine q_Jmrg (lI' := [(459, r8.2)]) (lE' := []) rfl rfl ?_
  refine q_blk 7 [] (c' := q_kc (t, r, m, z, N, ext, rx, L) I E 34 [some (.ref 457), none, none, some (.int r8.1), none] [.int r8.1] [(457, (q_up (I 457) 14 (((I 457) 14) + r8.1))), (459, r8.2)] []) ok_X2_loseRest rfl q_cn ?_
  cases hf
  exact q_kri ok_X2_loseRest rfl rfl rfl (Nat.le_of_ble_eq_true rfl) (Nat.le_of_ble_eq_true rfl) ⟨rfl, q_hpe (q_fin [457, 459] rfl) (q_fin [] rfl)⟩
set_option maxHeartbeats 4000000 in
theorem lp_X2_copyHalf_L36_457 {g : q_G} {d mc ms : Nat} {h0 : q_H} {Q : (Option Value ⊕ String) → q_H → Prop} {k n : Nat} {t : Nat} {r : Nat} {m : Nat} {z : Nat} {N : Nat} {ext : Nat → q_Sh} {rx : Nat → Nat → Option Nat} {L : Nat → Nat → Int64} (hd : 3 ≤ d) (hk : k ≤ mc) (hn : n ≤ ms)  {v2 : Int32} : ∀ (fu : Nat) {I : Nat → Nat → Int32} {E : Nat → Nat → Option Nat} {v3 : Int32} {r0 : (Nat → Int32) × (Nat → Int32) × (Nat → Int32) × (Nat → Int32) × (Nat → Int32) × (Nat → Int32) × (Nat → Int32) × (Nat → Int32) × (Nat → Int32) × (Nat → Int32)} (hf : f_X2_copyHalf_L36 (I 402) (I 461) (I 470) fu (I 457) (I 459) (I 460) (I 462) (I 465) (I 466) (I 467) (I 468) (I 469) (I 471) v3 = some r0) (hK0 : q_J g m_X2_copyHalf d mc ms h0 [471, 472] Q k n (q_kc (t, r, m, z, N, ext, rx, L) I E 46 [some (.ref 457), some (.ref 472), some (.int v2), none, none, none] [] [(457, r0.1), (459, r0.2.1), (460, r0.2.2.1), (462, r0.2.2.2.1), (465, r0.2.2.2.2.1), (466, r0.2.2.2.2.2.1), (467, r0.2.2.2.2.2.2.1), (468, r0.2.2.2.2.2.2.2.1), (469, r0.2.2.2.2.2.2.2.2.1), (471, r0.2.2.2.2.2.2.2.2.2)] [])), q_J g m_X2_copyHalf d mc ms h0 [471, 472] Q k n (36, [some (.ref 457), some (.ref 472), some (.int v2), some (.int v3), none, none], [], q_hp (t, r, m, z, N, ext, rx, L) I E) := by
  intro fu
  induction fu with
  | zero =>
    intro I E v3 r0 hf hK0
    rw [f_X2_copyHalf_L36] at hf
    cases hf
  | succ fu ih =>
    intro I E v3 r0 hf hK0
    rw [f_X2_copyHalf_L36] at hf
    change q_J g m_X2_copyHalf d mc ms h0 [471, 472] Q k n (q_kc (t, r, m, z, N, ext, rx, L) I E 36 [some (.ref 457), some (.ref 472), some (.int v2), some (.int v3), none, none] [] [] [])
    refine q_blf 2 [] (a := q_kc (t, r, m, z, N, ext, rx, L) I E 46 [some (.ref 457), some (.ref 472), some (.int v2), some (.int v3), none, none] [] [] []) (b := q_kc (t, r, m, z, N, ext, rx, L) I E 39 [some (.ref 457), some (.ref 472), some (.int v2), some (.int v3), none, none] [] [] []) (P := (6 : Int32) ≤ v3) ok_X2_copyHalf rfl q_cn (fun h1 => ?_) (fun h1 => ?_)
    · have hf := q_ip h1 hf
      refine q_less (ls' := [some (.ref 457), some (.ref 472), some (.int v2), none, none, none]) (q_sb2 (q_sb2 (q_sb2 (q_sb1 (q_sb1 (q_sb1 q_sb0)))))) ?_
      cases hf
      exact q_Jpad [457, 459, 460, 462, 465, 466, 467, 468, 469, 471] [] rfl rfl hK0
    · have hf := q_in h1 hf
      refine q_blk 3 [] (c' := q_kc (t, r, m, z, N, ext, rx, L) I E 42 [some (.ref 457), some (.ref 472), some (.int v2), some (.int v3), none, none] [.int v3, .ref 457, .ref 457] [] []) ok_X2_copyHalf rfl q_cn ?_
      obtain ⟨r2, hr2, hf⟩ := q_bd hf
      refine q_kV (M2 := m_X2_held) (As := [.int v3]) (b := 457) (v2 := some (.int r2)) ok_X2_copyHalf ok_X2_held cv_X2_held (ct_X2_held_457 (d := 1) (Nat.le_refl _) hr2) rfl rfl (Or.inl rfl) rfl rfl rfl rfl (Nat.le_trans (Nat.le_of_ble_eq_true rfl) hd) hk hn (Nat.le_of_ble_eq_true rfl) (fun x hx => absurd hx List.not_mem_nil) (q_nmL0 _) (q_nmS0 _) rfl (pos' := 43) (st' := [.int r2, .ref 457]) (lI' := []) (lE' := []) rfl rfl rfl rfl ?_
      obtain ⟨r3, hr3, hf⟩ := q_bd hf
      refine q_kV (M2 := m_X2_takeOver) (As := [.int r2]) (b := 457) (v2 := none) ok_X2_copyHalf ok_X2_takeOver cv_X2_takeOver (ct_X2_takeOver_457 (d := 2) (Nat.le_refl _) hr3) rfl rfl (Or.inl rfl) rfl rfl rfl rfl (Nat.le_trans (Nat.le_of_ble_eq_true rfl) hd) hk hn (Nat.le_of_ble_eq_true rfl) (fun x hx => absurd hx List.not_mem_nil) (q_nmL0 _) (q_nmS0 _) rfl (pos' := 44) (st' := []) (lI' := [(457, r3.1), (459, r3.2.1), (460, r3.2.2.1), (462, r3.2.2.2.1), (465, r3.2.2.2.2.1), (466, r3.2.2.2.2.2.1), (467, r3.2.2.2.2.2.2.1), (468, r3.2.2.2.2.2.2.2.1), (469, r3.2.2.2.2.2.2.2.2.1), (471, r3.2.2.2.2.2.2.2.2.2)]) (lE' := []) rfl rfl rfl rfl ?_
      refine q_blk 2 [] (c' := q_kc (t, r, m, z, N, ext, rx, L) I E 36 [some (.ref 457), some (.ref 472), some (.int v2), some (.int (v3 + 1)), none, none] [] [(457, r3.1), (459, r3.2.1), (460, r3.2.2.1), (462, r3.2.2.2.1), (465, r3.2.2.2.2.1), (466, r3.2.2.2.2.2.1), (467, r3.2.2.2.2.2.2.1), (468, r3.2.2.2.2.2.2.2.1), (469, r3.2.2.2.2.2.2.2.2.1), (471, r3.2.2.2.2.2.2.2.2.2)] []) ok_X2_copyHalf rfl q_cn ?_
      exact ih (I := q_ws I [(457, r3.1), (459, r3.2.1), (460, r3.2.2.1), (462, r3.2.2.2.1), (465, r3.2.2.2.2.1), (466, r3.2.2.2.2.2.1), (467, r3.2.2.2.2.2.2.1), (468, r3.2.2.2.2.2.2.2.1), (469, r3.2.2.2.2.2.2.2.2.1), (471, r3.2.2.2.2.2.2.2.2.2)]) (E := q_ws E []) hf (q_Jmrg rfl rfl hK0)
set_option maxHeartbeats 4000000 in
theorem lp_X2_copyHalf_L98_457 {g : q_G} {d mc ms : Nat} {h0 : q_H} {Q : (Option Value ⊕ String) → q_H → Prop} {k n : Nat} {t : Nat} {r : Nat} {m : Nat} {z : Nat} {N : Nat} {ext : Nat → q_Sh} {rx : Nat → Nat → Option Nat} {L : Nat → Nat → Int64} (hd : 3 ≤ d) (hk : k ≤ mc) (hn : n ≤ ms)  {v2 : Int32} {v3 : Int32} {v4 : Int32} : ∀ (fu : Nat) {I : Nat → Nat → Int32} {E : Nat → Nat → Option Nat} {v5 : Int32} {r0 : (Nat → Int32) × (Nat → Int32) × (Nat → Int32) × (Nat → Int32) × (Nat → Int32) × (Nat → Int32) × (Nat → Int32) × (Nat → Int32) × (Nat → Int32) × (Nat → Int32)} (hf : f_X2_copyHalf_L98 (I 402) (I 461) (I 463) (I 464) v4 fu (I 457) (I 459) (I 460) (I 462) (I 465) (I 466) (I 467) (I 468) (I 469) (I 471) v5 = some r0) (hK0 : q_J g m_X2_copyHalf d mc ms h0 [471, 472] Q k n (q_kc (t, r, m, z, N, ext, rx, L) I E 113 [some (.ref 457), some (.ref 472), some (.int v2), some (.int v3), none, none] [] [(457, r0.1), (459, r0.2.1), (460, r0.2.2.1), (462, r0.2.2.2.1), (465, r0.2.2.2.2.1), (466, r0.2.2.2.2.2.1), (467, r0.2.2.2.2.2.2.1), (468, r0.2.2.2.2.2.2.2.1), (469, r0.2.2.2.2.2.2.2.2.1), (471, r0.2.2.2.2.2.2.2.2.2)] [])), q_J g m_X2_copyHalf d mc ms h0 [471, 472] Q k n (98, [some (.ref 457), some (.ref 472), some (.int v2), some (.int v3), some (.int v4), some (.int v5)], [], q_hp (t, r, m, z, N, ext, rx, L) I E) := by
  intro fu
  induction fu with
  | zero =>
    intro I E v5 r0 hf hK0
    rw [f_X2_copyHalf_L98] at hf
    cases hf
  | succ fu ih =>
    intro I E v5 r0 hf hK0
    rw [f_X2_copyHalf_L98] at hf
    change q_J g m_X2_copyHalf d mc ms h0 [471, 472] Q k n (q_kc (t, r, m, z, N, ext, rx, L) I E 98 [some (.ref 457), some (.ref 472), some (.int v2), some (.int v3), some (.int v4), some (.int v5)] [] [] [])
    refine q_blk 4 [] (c' := q_kc (t, r, m, z, N, ext, rx, L) I E 102 [some (.ref 457), some (.ref 472), some (.int v2), some (.int v3), some (.int v4), some (.int v5)] [.int v4, .ref 458, .int v5] [] []) ok_X2_copyHalf rfl q_cn ?_
    obtain ⟨r4, hr4, hf⟩ := q_bd hf
    refine q_kV (M2 := m_X1_ropes) (As := [.int v4]) (b := 458) (v2 := some (.int r4)) ok_X2_copyHalf ok_X1_ropes cv_X1_ropes (ct_X1_ropes_458 (d := 1) (Nat.le_refl _) hr4) rfl rfl (Or.inl rfl) rfl rfl rfl rfl (Nat.le_trans (Nat.le_of_ble_eq_true rfl) hd) hk hn (Nat.le_of_ble_eq_true rfl) (fun x hx => absurd hx List.not_mem_nil) (q_nmL0 _) (q_nmS0 _) rfl (pos' := 103) (st' := [.int r4, .int v5]) (lI' := []) (lE' := []) rfl rfl rfl rfl ?_
    refine q_blf 0 [] (a := q_kc (t, r, m, z, N, ext, rx, L) I E 113 [some (.ref 457), some (.ref 472), some (.int v2), some (.int v3), some (.int v4), some (.int v5)] [] [] []) (b := q_kc (t, r, m, z, N, ext, rx, L) I E 104 [some (.ref 457), some (.ref 472), some (.int v2), some (.int v3), some (.int v4), some (.int v5)] [] [] []) (P := r4 ≤ v5) ok_X2_copyHalf rfl q_cn (fun h5 => ?_) (fun h5 => ?_)
    · have hf := q_ip h5 hf
      refine q_less (ls' := [some (.ref 457), some (.ref 472), some (.int v2), some (.int v3), none, none]) (q_sb2 (q_sb2 (q_sb2 (q_sb2 (q_sb1 (q_sb1 q_sb0)))))) ?_
      cases hf
      exact q_Jpad [457, 459, 460, 462, 465, 466, 467, 468, 469, 471] [] rfl rfl hK0
    · have hf := q_in h5 hf
      refine q_blk 5 [] (c' := q_kc (t, r, m, z, N, ext, rx, L) I E 109 [some (.ref 457), some (.ref 472), some (.int v2), some (.int v3), some (.int v4), some (.int v5)] [.int v5, .int v4, .ref 458, .ref 457] [] []) ok_X2_copyHalf rfl q_cn ?_
      obtain ⟨r6, hr6, hf⟩ := q_bd hf
      refine q_kV (M2 := m_X1_lead) (As := [.int v4, .int v5]) (b := 458) (v2 := some (.int r6)) ok_X2_copyHalf ok_X1_lead cv_X1_lead (ct_X1_lead_458 (d := 2) (Nat.le_refl _) hr6) rfl rfl (Or.inl rfl) rfl rfl rfl rfl (Nat.le_trans (Nat.le_of_ble_eq_true rfl) hd) hk hn (Nat.le_of_ble_eq_true rfl) (fun x hx => absurd hx List.not_mem_nil) (q_nmL0 _) (q_nmS0 _) rfl (pos' := 110) (st' := [.int r6, .ref 457]) (lI' := []) (lE' := []) rfl rfl rfl rfl ?_
      obtain ⟨r7, hr7, hf⟩ := q_bd hf
      refine q_kV (M2 := m_X2_takeOver) (As := [.int r6]) (b := 457) (v2 := none) ok_X2_copyHalf ok_X2_takeOver cv_X2_takeOver (ct_X2_takeOver_457 (d := 2) (Nat.le_refl _) hr7) rfl rfl (Or.inl rfl) rfl rfl rfl rfl (Nat.le_trans (Nat.le_of_ble_eq_true rfl) hd) hk hn (Nat.le_of_ble_eq_true rfl) (fun x hx => absurd hx List.not_mem_nil) (q_nmL0 _) (q_nmS0 _) rfl (pos' := 111) (st' := []) (lI' := [(457, r7.1), (459, r7.2.1), (460, r7.2.2.1), (462, r7.2.2.2.1), (465, r7.2.2.2.2.1), (466, r7.2.2.2.2.2.1), (467, r7.2.2.2.2.2.2.1), (468, r7.2.2.2.2.2.2.2.1), (469, r7.2.2.2.2.2.2.2.2.1), (471, r7.2.2.2.2.2.2.2.2.2)]) (lE' := []) rfl rfl rfl rfl ?_
      refine q_blk 2 [] (c' := q_kc (t, r, m, z, N, ext, rx, L) I E 98 [some (.ref 457), some (.ref 472), some (.int v2), some (.int v3), some (.int v4), some (.int (v5 + 1))] [] [(457, r7.1), (459, r7.2.1), (460, r7.2.2.1), (462, r7.2.2.2.1), (465, r7.2.2.2.2.1), (466, r7.2.2.2.2.2.1), (467, r7.2.2.2.2.2.2.1), (468, r7.2.2.2.2.2.2.2.1), (469, r7.2.2.2.2.2.2.2.2.1), (471, r7.2.2.2.2.2.2.2.2.2)] []) ok_X2_copyHalf rfl q_cn ?_
      exact ih (I := q_ws I [(457, r7.1), (459, r7.2.1), (460, r7.2.2.1), (462, r7.2.2.2.1), (465, r7.2.2.2.2.1), (466, r7.2.2.2.2.2.1), (467, r7.2.2.2.2.2.2.1), (468, r7.2.2.2.2.2.2.2.1), (469, r7.2.2.2.2.2.2.2.2.1), (471, r7.2.2.2.2.2.2.2.2.2)]) (E := q_ws E []) hf (q_Jmrg rfl rfl hK0)
set_option maxHeartbeats 4000000 in
theorem lp_X2_copyHalf_L59_457 {g : q_G} {d mc ms : Nat} {h0 : q_H} {Q : (Option Value ⊕ String) → q_H → Prop} {k n : Nat} {t : Nat} {r : Nat} {m : Nat} {z : Nat} {N : Nat} {ext : Nat → q_Sh} {rx : Nat → Nat → Option Nat} {L : Nat → Nat → Int64} (hd : 3 ≤ d) (hk : k ≤ mc) (hn : n ≤ ms)  {v2 : Int32} {v3 : Int32} {v4 : Int32} : ∀ (fu : Nat) {I : Nat → Nat → Int32} {E : Nat → Nat → Option Nat} {v5 : Int32} {r0 : (Nat → Int32) × (Nat → Int32) × (Nat → Int32) × (Nat → Int32) × (Nat → Int32) × (Nat → Int32) × (Nat → Int32) × (Nat → Int32) × (Nat → Int32) × (Nat → Int32)} (hf : f_X2_copyHalf_L59 (I 402) (I 461) (I 463) (I 464) v4 fu (I 457) (I 459) (I 460) (I 462) (I 465) (I 466) (I 467) (I 468) (I 469) (I 471) v5 = some r0) (hK0 : q_J g m_X2_copyHalf d mc ms h0 [471, 472] Q k n (q_kc (t, r, m, z, N, ext, rx, L) I E 79 [some (.ref 457), some (.ref 472), some (.int v2), some (.int v3), none, none] [] [(457, r0.1), (459, r0.2.1), (460, r0.2.2.1), (462, r0.2.2.2.1), (465, r0.2.2.2.2.1), (466, r0.2.2.2.2.2.1), (467, r0.2.2.2.2.2.2.1), (468, r0.2.2.2.2.2.2.2.1), (469, r0.2.2.2.2.2.2.2.2.1), (471, r0.2.2.2.2.2.2.2.2.2)] [])), q_J g m_X2_copyHalf d mc ms h0 [471, 472] Q k n (59, [some (.ref 457), some (.ref 472), some (.int v2), some (.int v3), some (.int v4), some (.int v5)], [], q_hp (t, r, m, z, N, ext, rx, L) I E) := by
  intro fu
  induction fu with
  | zero =>
    intro I E v5 r0 hf hK0
    rw [f_X2_copyHalf_L59] at hf
    cases hf
  | succ fu ih =>
    intro I E v5 r0 hf hK0
    rw [f_X2_copyHalf_L59] at hf
    change q_J g m_X2_copyHalf d mc ms h0 [471, 472] Q k n (q_kc (t, r, m, z, N, ext, rx, L) I E 59 [some (.ref 457), some (.ref 472), some (.int v2), some (.int v3), some (.int v4), some (.int v5)] [] [] [])
    refine q_blk 4 [] (c' := q_kc (t, r, m, z, N, ext, rx, L) I E 63 [some (.ref 457), some (.ref 472), some (.int v2), some (.int v3), some (.int v4), some (.int v5)] [.int v4, .ref 458, .int v5] [] []) ok_X2_copyHalf rfl q_cn ?_
    obtain ⟨r8, hr8, hf⟩ := q_bd hf
    refine q_kV (M2 := m_X1_ropes) (As := [.int v4]) (b := 458) (v2 := some (.int r8)) ok_X2_copyHalf ok_X1_ropes cv_X1_ropes (ct_X1_ropes_458 (d := 1) (Nat.le_refl _) hr8) rfl rfl (Or.inl rfl) rfl rfl rfl rfl (Nat.le_trans (Nat.le_of_ble_eq_true rfl) hd) hk hn (Nat.le_of_ble_eq_true rfl) (fun x hx => absurd hx List.not_mem_nil) (q_nmL0 _) (q_nmS0 _) rfl (pos' := 64) (st' := [.int r8, .int v5]) (lI' := []) (lE' := []) rfl rfl rfl rfl ?_
    refine q_blf 0 [] (a := q_kc (t, r, m, z, N, ext, rx, L) I E 79 [some (.ref 457), some (.ref 472), some (.int v2), some (.int v3), some (.int v4), some (.int v5)] [] [] []) (b := q_kc (t, r, m, z, N, ext, rx, L) I E 65 [some (.ref 457), some (.ref 472), some (.int v2), some (.int v3), some (.int v4), some (.int v5)] [] [] []) (P := r8 ≤ v5) ok_X2_copyHalf rfl q_cn (fun h9 => ?_) (fun h9 => ?_)
    · have hf := q_ip h9 hf
      refine q_less (ls' := [some (.ref 457), some (.ref 472), some (.int v2), some (.int v3), none, none]) (q_sb2 (q_sb2 (q_sb2 (q_sb2 (q_sb1 (q_sb1 q_sb0)))))) ?_
      cases hf
      exact q_Jpad [457, 459, 460, 462, 465, 466, 467, 468, 469, 471] [] rfl rfl hK0
    · have hf := q_in h9 hf
      refine q_blk 3 [] (c' := q_kc (t, r, m, z, N, ext, rx, L) I E 68 [some (.ref 457), some (.ref 472), some (.int v2), some (.int v3), some (.int v4), some (.int v5)] [.int v4, .ref 467] [] []) ok_X2_copyHalf rfl q_cn ?_
      obtain ⟨r10, hr10, hf⟩ := q_bd hf
      refine q_kV (M2 := m_X4_has) (As := [.int v4]) (b := 467) (v2 := some (.int (q_bz r10))) ok_X2_copyHalf ok_X4_has cv_X4_has (ct_X4_has_467 (d := 1) (Nat.le_refl _) hr10) rfl rfl (Or.inl rfl) rfl rfl rfl rfl (Nat.le_trans (Nat.le_of_ble_eq_true rfl) hd) hk hn (Nat.le_of_ble_eq_true rfl) (fun x hx => absurd hx List.not_mem_nil) (q_nmL0 _) (q_nmS0 _) rfl (pos' := 69) (st' := [.int (q_bz r10)]) (lI' := []) (lE' := []) rfl rfl rfl rfl ?_
      refine q_blf 0 [] (a := q_kc (t, r, m, z, N, ext, rx, L) I E 79 [some (.ref 457), some (.ref 472), some (.int v2), some (.int v3), some (.int v4), some (.int v5)] [] [] []) (b := q_kc (t, r, m, z, N, ext, rx, L) I E 70 [some (.ref 457), some (.ref 472), some (.int v2), some (.int v3), some (.int v4), some (.int v5)] [] [] []) (P := ¬ (q_bz r10) = 0) ok_X2_copyHalf rfl q_cn (fun h11 => ?_) (fun h11 => ?_)
      · have hf := q_ip h11 hf
        refine q_less (ls' := [some (.ref 457), some (.ref 472), some (.int v2), some (.int v3), none, none]) (q_sb2 (q_sb2 (q_sb2 (q_sb2 (q_sb1 (q_sb1 q_sb0)))))) ?_
        cases hf
        exact q_Jpad [457, 459, 460, 462, 465, 466, 467, 468, 469, 471] [] rfl rfl hK0
      · have hf := q_in h11 hf
        refine q_blk 5 [] (c' := q_kc (t, r, m, z, N, ext, rx, L) I E 75 [some (.ref 457), some (.ref 472), some (.int v2), some (.int v3), some (.int v4), some (.int v5)] [.int v5, .int v4, .ref 458, .ref 457] [] []) ok_X2_copyHalf rfl q_cn ?_
        obtain ⟨r12, hr12, hf⟩ := q_bd hf
        refine q_kV (M2 := m_X1_lead) (As := [.int v4, .int v5]) (b := 458) (v2 := some (.int r12)) ok_X2_copyHalf ok_X1_lead cv_X1_lead (ct_X1_lead_458 (d := 2) (Nat.le_refl _) hr12) rfl rfl (Or.inl rfl) rfl rfl rfl rfl (Nat.le_trans (Nat.le_of_ble_eq_true rfl) hd) hk hn (Nat.le_of_ble_eq_true rfl) (fun x hx => absurd hx List.not_mem_nil) (q_nmL0 _) (q_nmS0 _) rfl (pos' := 76) (st' := [.int r12, .ref 457]) (lI' := []) (lE' := []) rfl rfl rfl rfl ?_
        obtain ⟨r13, hr13, hf⟩ := q_bd hf
        refine q_kV (M2 := m_X2_takeOver) (As := [.int r12]) (b := 457) (v2 := none) ok_X2_copyHalf ok_X2_takeOver cv_X2_takeOver (ct_X2_takeOver_457 (d := 2) (Nat.le_refl _) hr13) rfl rfl (Or.inl rfl) rfl rfl rfl rfl (Nat.le_trans (Nat.le_of_ble_eq_true rfl) hd) hk hn (Nat.le_of_ble_eq_true rfl) (fun x hx => absurd hx List.not_mem_nil) (q_nmL0 _) (q_nmS0 _) rfl (pos' := 77) (st' := []) (lI' := [(457, r13.1), (459, r13.2.1), (460, r13.2.2.1), (462, r13.2.2.2.1), (465, r13.2.2.2.2.1), (466, r13.2.2.2.2.2.1), (467, r13.2.2.2.2.2.2.1), (468, r13.2.2.2.2.2.2.2.1), (469, r13.2.2.2.2.2.2.2.2.1), (471, r13.2.2.2.2.2.2.2.2.2)]) (lE' := []) rfl rfl rfl rfl ?_
        refine q_blk 2 [] (c' := q_kc (t, r, m, z, N, ext, rx, L) I E 59 [some (.ref 457), some (.ref 472), some (.int v2), some (.int v3), some (.int v4), some (.int (v5 + 1))] [] [(457, r13.1), (459, r13.2.1), (460, r13.2.2.1), (462, r13.2.2.2.1), (465, r13.2.2.2.2.1), (466, r13.2.2.2.2.2.1), (467, r13.2.2.2.2.2.2.1), (468, r13.2.2.2.2.2.2.2.1), (469, r13.2.2.2.2.2.2.2.2.1), (471, r13.2.2.2.2.2.2.2.2.2)] []) ok_X2_copyHalf rfl q_cn ?_
        exact ih (I := q_ws I [(457, r13.1), (459, r13.2.1), (460, r13.2.2.1), (462, r13.2.2.2.1), (465, r13.2.2.2.2.1), (466, r13.2.2.2.2.2.1), (467, r13.2.2.2.2.2.2.1), (468, r13.2.2.2.2.2.2.2.1), (469, r13.2.2.2.2.2.2.2.2.1), (471, r13.2.2.2.2.2.2.2.2.2)]) (E := q_ws E []) hf (q_Jmrg rfl rfl hK0)
set_option maxHeartbeats 4000000 in
theorem lp_X2_copyHalf_L83_457 {g : q_G} {d mc ms : Nat} {h0 : q_H} {Q : (Option Value ⊕ String) → q_H → Prop} {k n : Nat} {t : Nat} {r : Nat} {m : Nat} {z : Nat} {N : Nat} {ext : Nat → q_Sh} {rx : Nat → Nat → Option Nat} {L : Nat → Nat → Int64} (hd : 3 ≤ d) (hk : k ≤ mc) (hn : n ≤ ms)  {v2 : Int32} : ∀ (fu : Nat) {I : Nat → Nat → Int32} {E : Nat → Nat → Option Nat} {v3 : Int32} {r0 : (Nat → Int32) × (Nat → Int32) × (Nat → Int32) × (Nat → Int32) × (Nat → Int32) × (Nat → Int32) × (Nat → Int32) × (Nat → Int32) × (Nat → Int32) × (Nat → Int32)} (hf : f_X2_copyHalf_L83 (I 402) (I 461) (I 463) (I 464) fu (I 457) (I 459) (I 460) (I 462) (I 465) (I 466) (I 467) (I 468) (I 469) (I 471) v3 = some r0) (hK0 : q_J g m_X2_copyHalf d mc ms h0 [471, 472] Q k n (q_kc (t, r, m, z, N, ext, rx, L) I E 115 [some (.ref 457), some (.ref 472), some (.int v2), none, none, none] [] [(457, r0.1), (459, r0.2.1), (460, r0.2.2.1), (462, r0.2.2.2.1), (465, r0.2.2.2.2.1), (466, r0.2.2.2.2.2.1), (467, r0.2.2.2.2.2.2.1), (468, r0.2.2.2.2.2.2.2.1), (469, r0.2.2.2.2.2.2.2.2.1), (471, r0.2.2.2.2.2.2.2.2.2)] [])), q_J g m_X2_copyHalf d mc ms h0 [471, 472] Q k n (83, [some (.ref 457), some (.ref 472), some (.int v2), some (.int v3), none, none], [], q_hp (t, r, m, z, N, ext, rx, L) I E) := by
  intro fu
  induction fu with
  | zero =>
    intro I E v3 r0 hf hK0
    rw [f_X2_copyHalf_L83] at hf
    cases hf
  | succ fu ih =>
    intro I E v3 r0 hf hK0
    rw [f_X2_copyHalf_L83] at hf
    change q_J g m_X2_copyHalf d mc ms h0 [471, 472] Q k n (q_kc (t, r, m, z, N, ext, rx, L) I E 83 [some (.ref 457), some (.ref 472), some (.int v2), some (.int v3), none, none] [] [] [])
    refine q_blf 2 [] (a := q_kc (t, r, m, z, N, ext, rx, L) I E 115 [some (.ref 457), some (.ref 472), some (.int v2), some (.int v3), none, none] [] [] []) (b := q_kc (t, r, m, z, N, ext, rx, L) I E 86 [some (.ref 457), some (.ref 472), some (.int v2), some (.int v3), none, none] [] [] []) (P := (128 : Int32) ≤ v3) ok_X2_copyHalf rfl q_cn (fun h14 => ?_) (fun h14 => ?_)
    · have hf := q_ip h14 hf
      refine q_less (ls' := [some (.ref 457), some (.ref 472), some (.int v2), none, none, none]) (q_sb2 (q_sb2 (q_sb2 (q_sb1 (q_sb1 (q_sb1 q_sb0)))))) ?_
      cases hf
      exact q_Jpad [457, 459, 460, 462, 465, 466, 467, 468, 469, 471] [] rfl rfl hK0
    · have hf := q_in h14 hf
      refine q_blk 3 [] (c' := q_kc (t, r, m, z, N, ext, rx, L) I E 89 [some (.ref 457), some (.ref 472), some (.int v2), some (.int v3), none, none] [.ref 467, .int v3] [] []) ok_X2_copyHalf rfl q_cn ?_
      obtain ⟨r15, hr15, hf⟩ := q_bd hf
      refine q_kV (M2 := m_X4_length) (As := []) (b := 467) (v2 := some (.int r15)) ok_X2_copyHalf ok_X4_length cv_X4_length (ct_X4_length_467 (d := 1) (Nat.le_refl _) hr15) rfl rfl (Or.inl rfl) rfl rfl rfl rfl (Nat.le_trans (Nat.le_of_ble_eq_true rfl) hd) hk hn (Nat.le_of_ble_eq_true rfl) (fun x hx => absurd hx List.not_mem_nil) (q_nmL0 _) (q_nmS0 _) rfl (pos' := 90) (st' := [.int r15, .int v3]) (lI' := []) (lE' := []) rfl rfl rfl rfl ?_
      refine q_blf 0 [] (a := q_kc (t, r, m, z, N, ext, rx, L) I E 115 [some (.ref 457), some (.ref 472), some (.int v2), some (.int v3), none, none] [] [] []) (b := q_kc (t, r, m, z, N, ext, rx, L) I E 91 [some (.ref 457), some (.ref 472), some (.int v2), some (.int v3), none, none] [] [] []) (P := r15 ≤ v3) ok_X2_copyHalf rfl q_cn (fun h16 => ?_) (fun h16 => ?_)
      · have hf := q_ip h16 hf
        refine q_less (ls' := [some (.ref 457), some (.ref 472), some (.int v2), none, none, none]) (q_sb2 (q_sb2 (q_sb2 (q_sb1 (q_sb1 (q_sb1 q_sb0)))))) ?_
        cases hf
        exact q_Jpad [457, 459, 460, 462, 465, 466, 467, 468, 469, 471] [] rfl rfl hK0
      · have hf := q_in h16 hf
        refine q_blk 3 [] (c' := q_kc (t, r, m, z, N, ext, rx, L) I E 94 [some (.ref 457), some (.ref 472), some (.int v2), some (.int v3), none, none] [.int v3, .ref 467] [] []) ok_X2_copyHalf rfl q_cn ?_
        obtain ⟨r17, hr17, hf⟩ := q_bd hf
        refine q_kV (M2 := m_X4_at) (As := [.int v3]) (b := 467) (v2 := some (.int r17)) ok_X2_copyHalf ok_X4_at cv_X4_at (ct_X4_at_467 (d := 1) (Nat.le_refl _) hr17) rfl rfl (Or.inl rfl) rfl rfl rfl rfl (Nat.le_trans (Nat.le_of_ble_eq_true rfl) hd) hk hn (Nat.le_of_ble_eq_true rfl) (fun x hx => absurd hx List.not_mem_nil) (q_nmL0 _) (q_nmS0 _) rfl (pos' := 95) (st' := [.int r17]) (lI' := []) (lE' := []) rfl rfl rfl rfl ?_
        refine q_blk 3 [] (c' := q_kc (t, r, m, z, N, ext, rx, L) I E 98 [some (.ref 457), some (.ref 472), some (.int v2), some (.int v3), some (.int r17), some (.int (0 : Int32))] [] [] []) ok_X2_copyHalf rfl q_cn ?_
        obtain ⟨r18, hr18, hf⟩ := q_bd hf
        refine lp_X2_copyHalf_L98_457 (I := q_ws I []) (E := q_ws E []) hd hk hn 4096 hr18 ?_
        refine q_Jmrg (lI' := [(457, r18.1), (459, r18.2.1), (460, r18.2.2.1), (462, r18.2.2.2.1), (465, r18.2.2.2.2.1), (466, r18.2.2.2.2.2.1), (467, r18.2.2.2.2.2.2.1), (468, r18.2.2.2.2.2.2.2.1), (469, r18.2.2.2.2.2.2.2.2.1), (471, r18.2.2.2.2.2.2.2.2.2)]) (lE' := []) rfl rfl ?_
        refine q_blk 2 [] (c' := q_kc (t, r, m, z, N, ext, rx, L) I E 83 [some (.ref 457), some (.ref 472), some (.int v2), some (.int (v3 + 1)), none, none] [] [(457, r18.1), (459, r18.2.1), (460, r18.2.2.1), (462, r18.2.2.2.1), (465, r18.2.2.2.2.1), (466, r18.2.2.2.2.2.1), (467, r18.2.2.2.2.2.2.1), (468, r18.2.2.2.2.2.2.2.1), (469, r18.2.2.2.2.2.2.2.2.1), (471, r18.2.2.2.2.2.2.2.2.2)] []) ok_X2_copyHalf rfl q_cn ?_
        exact ih (I := q_ws I [(457, r18.1), (459, r18.2.1), (460, r18.2.2.1), (462, r18.2.2.2.1), (465, r18.2.2.2.2.1), (466, r18.2.2.2.2.2.1), (467, r18.2.2.2.2.2.2.1), (468, r18.2.2.2.2.2.2.2.1), (469, r18.2.2.2.2.2.2.2.2.1), (471, r18.2.2.2.2.2.2.2.2.2)]) (E := q_ws E []) hf (q_Jmrg rfl rfl hK0)
set_option maxHeartbeats 4000000 in
theorem lp_X2_copyHalf_L48_457 {g : q_G} {d mc ms : Nat} {h0 : q_H} {Q : (Option Value ⊕ String) → q_H → Prop} {k n : Nat} {t : Nat} {r : Nat} {m : Nat} {z : Nat} {N : Nat} {ext : Nat → q_Sh} {rx : Nat → Nat → Option Nat} {L : Nat → Nat → Int64} (hd : 3 ≤ d) (hk : k ≤ mc) (hn : n ≤ ms)  {v2 : Int32} : ∀ (fu : Nat) {I : Nat → Nat → Int32} {E : Nat → Nat → Option Nat} {v3 : Int32} {r0 : (Nat → Int32) × (Nat → Int32) × (Nat → Int32) × (Nat → Int32) × (Nat → Int32) × (Nat → Int32) × (Nat → Int32) × (Nat → Int32) × (Nat → Int32) × (Nat → Int32)} (hf : f_X2_copyHalf_L48 (I 402) (I 461) (I 463) (I 464) fu (I 457) (I 459) (I 460) (I 462) (I 465) (I 466) (I 467) (I 468) (I 469) (I 471) v3 = some r0) (hK0 : q_J g m_X2_copyHalf d mc ms h0 [471, 472] Q k n (q_kc (t, r, m, z, N, ext, rx, L) I E 81 [some (.ref 457), some (.ref 472), some (.int v2), none, none, none] [] [(457, r0.1), (459, r0.2.1), (460, r0.2.2.1), (462, r0.2.2.2.1), (465, r0.2.2.2.2.1), (466, r0.2.2.2.2.2.1), (467, r0.2.2.2.2.2.2.1), (468, r0.2.2.2.2.2.2.2.1), (469, r0.2.2.2.2.2.2.2.2.1), (471, r0.2.2.2.2.2.2.2.2.2)] [])), q_J g m_X2_copyHalf d mc ms h0 [471, 472] Q k n (48, [some (.ref 457), some (.ref 472), some (.int v2), some (.int v3), none, none], [], q_hp (t, r, m, z, N, ext, rx, L) I E) := by
  intro fu
  induction fu with
  | zero =>
    intro I E v3 r0 hf hK0
    rw [f_X2_copyHalf_L48] at hf
    cases hf
  | succ fu ih =>
    intro I E v3 r0 hf hK0
    rw [f_X2_copyHalf_L48] at hf
    change q_J g m_X2_copyHalf d mc ms h0 [471, 472] Q k n (q_kc (t, r, m, z, N, ext, rx, L) I E 48 [some (.ref 457), some (.ref 472), some (.int v2), some (.int v3), none, none] [] [] [])
    refine q_blf 4 [] (a := q_kc (t, r, m, z, N, ext, rx, L) I E 81 [some (.ref 457), some (.ref 472), some (.int v2), some (.int v3), none, none] [] [] []) (b := q_kc (t, r, m, z, N, ext, rx, L) I E 53 [some (.ref 457), some (.ref 472), some (.int v2), some (.int v3), none, none] [] [] []) (P := ((I 402) 1) ≤ v3) ok_X2_copyHalf rfl q_cn (fun h19 => ?_) (fun h19 => ?_)
    · have hf := q_ip h19 hf
      refine q_less (ls' := [some (.ref 457), some (.ref 472), some (.int v2), none, none, none]) (q_sb2 (q_sb2 (q_sb2 (q_sb1 (q_sb1 (q_sb1 q_sb0)))))) ?_
      cases hf
      exact q_Jpad [457, 459, 460, 462, 465, 466, 467, 468, 469, 471] [] rfl rfl hK0
    · have hf := q_in h19 hf
      refine q_blk 2 [] (c' := q_kc (t, r, m, z, N, ext, rx, L) I E 55 [some (.ref 457), some (.ref 472), some (.int v2), some (.int v3), none, none] [.int v3, .ref 457] [] []) ok_X2_copyHalf rfl q_cn ?_
      obtain ⟨r20, hr20, hf⟩ := q_bd hf
      refine q_kV (M2 := m_X2_loftBaleFrom) (As := [.int v3]) (b := 457) (v2 := some (.int r20)) ok_X2_copyHalf ok_X2_loftBaleFrom cv_X2_loftBaleFrom (ct_X2_loftBaleFrom_457 (d := 2) (Nat.le_refl _) hr20) rfl rfl (Or.inl rfl) rfl rfl rfl rfl (Nat.le_trans (Nat.le_of_ble_eq_true rfl) hd) hk hn (Nat.le_of_ble_eq_true rfl) (fun x hx => absurd hx List.not_mem_nil) (q_nmL0 _) (q_nmS0 _) rfl (pos' := 56) (st' := [.int r20]) (lI' := []) (lE' := []) rfl rfl rfl rfl ?_
      refine q_blk 3 [] (c' := q_kc (t, r, m, z, N, ext, rx, L) I E 59 [some (.ref 457), some (.ref 472), some (.int v2), some (.int v3), some (.int r20), some (.int (0 : Int32))] [] [] []) ok_X2_copyHalf rfl q_cn ?_
      obtain ⟨r21, hr21, hf⟩ := q_bd hf
      refine lp_X2_copyHalf_L59_457 (I := q_ws I []) (E := q_ws E []) hd hk hn 4096 hr21 ?_
      refine q_Jmrg (lI' := [(457, r21.1), (459, r21.2.1), (460, r21.2.2.1), (462, r21.2.2.2.1), (465, r21.2.2.2.2.1), (466, r21.2.2.2.2.2.1), (467, r21.2.2.2.2.2.2.1), (468, r21.2.2.2.2.2.2.2.1), (469, r21.2.2.2.2.2.2.2.2.1), (471, r21.2.2.2.2.2.2.2.2.2)]) (lE' := []) rfl rfl ?_
      refine q_blk 2 [] (c' := q_kc (t, r, m, z, N, ext, rx, L) I E 48 [some (.ref 457), some (.ref 472), some (.int v2), some (.int (v3 + 1)), none, none] [] [(457, r21.1), (459, r21.2.1), (460, r21.2.2.1), (462, r21.2.2.2.1), (465, r21.2.2.2.2.1), (466, r21.2.2.2.2.2.1), (467, r21.2.2.2.2.2.2.1), (468, r21.2.2.2.2.2.2.2.1), (469, r21.2.2.2.2.2.2.2.2.1), (471, r21.2.2.2.2.2.2.2.2.2)] []) ok_X2_copyHalf rfl q_cn ?_
      exact ih (I := q_ws I [(457, r21.1), (459, r21.2.1), (460, r21.2.2.1), (462, r21.2.2.2.1), (465, r21.2.2.2.2.1), (466, r21.2.2.2.2.2.1), (467, r21.2.2.2.2.2.2.1), (468, r21.2.2.2.2.2.2.2.1), (469, r21.2.2.2.2.2.2.2.2.1), (471, r21.2.2.2.2.2.2.2.2.2)]) (E := q_ws E []) hf (q_Jmrg rfl rfl hK0)
set_option maxHeartbeats 4000000 in
theorem ct_X2_copyHalf_457 {g : q_G} {t : Nat} {r : Nat} {m : Nat} {ext : Nat → q_Sh} {rx : Nat → Nat → Option Nat} {L : Nat → Nat → Int64} {d : Nat} (hd : 3 ≤ d)  {I : Nat → Nat → Int32} {E : Nat → Nat → Option Nat} {r0 : Int32 × (Nat → Int32) × (Nat → Int32) × (Nat → Int32) × (Nat → Int32) × (Nat → Int32) × (Nat → Int32) × (Nat → Int32) × (Nat → Int32) × (Nat → Int32) × (Nat → Int32) × (Nat → Int32)} (hf : f_X2_copyHalf (I 402) (I 457) (I 459) (I 460) (I 461) (I 462) (I 463) (I 464) (I 465) (I 466) (I 467) (I 468) (I 469) (I 470) (I 471) (I 472) = some r0) : q_Ct g m_X2_copyHalf d 0 0 [471, 472] [.ref 457] (q_hp (t, r, m, 499, 529, ext, rx, L) I E) (fun o h' => o = .inl (some (.int r0.1)) ∧ h' = q_hp (t, r, m, 499, 529, ext, rx, L) (q_ws I [(457, r0.2.1), (459, r0.2.2.1), (460, r0.2.2.2.1), (462, r0.2.2.2.2.1), (465, r0.2.2.2.2.2.1), (466, r0.2.2.2.2.2.2.1), (467, r0.2.2.2.2.2.2.2.1), (468, r0.2.2.2.2.2.2.2.2.1), (469, r0.2.2.2.2.2.2.2.2.2.1), (471, r0.2.2.2.2.2.2.2.2.2.2.1), (472, r0.2.2.2.2.2.2.2.2.2.2.2)]) (q_ws E [])) := by
  rw [f_X2_copyHalf] at hf
  refine q_Ct_of ok_X2_copyHalf (Nat.le_of_ble_eq_true rfl) ?_ _ rfl rfl
  change q_J g m_X2_copyHalf d 0 0 _ [471, 472] _ 0 0 (q_kc (t, r, m, 499, 529, ext, rx, L) I E 0 [some (.ref 457), none, none, none, none, none] [] [] [])
  refine q_blk 6 [] (c' := q_kc (t, r, m, 499, 529, ext, rx, L) I E 6 [some (.ref 457), some (.ref 471), some (.int ((I 457) 7)), none, none, none] [] [] []) ok_X2_copyHalf rfl q_cn ?_
  refine q_kswap457 (lI' := [(471, (I 472)), (472, (I 471))]) rfl ?_
  refine q_blk 20 [] (c' := q_kc (t, r, m, 499, 529, ext, rx, L) I E 33 [some (.ref 457), some (.ref 472), some (.int ((I 457) 7)), none, none, none] [.ref 467] [(457, (q_up (q_up (q_up (q_up (I 457) 7 (0 : Int32)) 8 (0 : Int32)) 9 ((1 : Int32) - ((q_up (q_up (I 457) 7 (0 : Int32)) 8 (0 : Int32)) 9))) 12 (((q_up (q_up (q_up (I 457) 7 (0 : Int32)) 8 (0 : Int32)) 9 ((1 : Int32) - ((q_up (q_up (I 457) 7 (0 : Int32)) 8 (0 : Int32)) 9))) 12) + (1 : Int32)))), (471, (I 472)), (472, (I 471))] []) ok_X2_copyHalf rfl q_cn ?_
  obtain ⟨r22, hr22, hf⟩ := q_bd hf
  refine q_kV (M2 := m_X4_clear) (As := []) (b := 467) (v2 := none) ok_X2_copyHalf ok_X4_clear cv_X4_clear (ct_X4_clear_467 (d := 2) (Nat.le_refl _) hr22) rfl rfl (Or.inl rfl) rfl rfl rfl rfl (Nat.le_trans (Nat.le_of_ble_eq_true rfl) hd) (Nat.le_of_ble_eq_true rfl) (Nat.le_of_ble_eq_true rfl) (Nat.le_of_ble_eq_true rfl) (fun x hx => absurd hx List.not_mem_nil) (q_nmL0 _) (q_nmS0 _) rfl (pos' := 34) (st' := []) (lI' := [(457, (q_up (q_up (q_up (q_up (I 457) 7 (0 : Int32)) 8 (0 : Int32)) 9 ((1 : Int32) - ((q_up (q_up (I 457) 7 (0 : Int32)) 8 (0 : Int32)) 9))) 12 (((q_up (q_up (q_up (I 457) 7 (0 : Int32)) 8 (0 : Int32)) 9 ((1 : Int32) - ((q_up (q_up (I 457) 7 (0 : Int32)) 8 (0 : Int32)) 9))) 12) + (1 : Int32)))), (467, r22.1), (469, r22.2), (471, (I 472)), (472, (I 471))]) (lE' := []) rfl rfl rfl rfl ?_
  refine q_blk 2 [] (c' := q_kc (t, r, m, 499, 529, ext, rx, L) I E 36 [some (.ref 457), some (.ref 472), some (.int ((I 457) 7)), some (.int (0 : Int32)), none, none] [] [(457, (q_up (q_up (q_up (q_up (I 457) 7 (0 : Int32)) 8 (0 : Int32)) 9 ((1 : Int32) - ((q_up (q_up (I 457) 7 (0 : Int32)) 8 (0 : Int32)) 9))) 12 (((q_up (q_up (q_up (I 457) 7 (0 : Int32)) 8 (0 : Int32)) 9 ((1 : Int32) - ((q_up (q_up (I 457) 7 (0 : Int32)) 8 (0 : Int32)) 9))) 12) + (1 : Int32)))), (467, r22.1), (469, r22.2), (471, (I 472)), (472, (I 471))] []) ok_X2_copyHalf rfl q_cn ?_
  obtain ⟨r23, hr23, hf⟩ := q_bd hf
  refine lp_X2_copyHalf_L36_457 (I := q_ws I [(457, (q_up (q_up (q_up (q_up (I 457) 7 (0 : Int32)) 8 (0 : Int32)) 9 ((1 : Int32) - ((q_up (q_up (I 457) 7 (0 : Int32)) 8 (0 : Int32)) 9))) 12 (((q_up (q_up (q_up (I 457) 7 (0 : Int32)) 8 (0 : Int32)) 9 ((1 : Int32) - ((q_up (q_up (I 457) 7 (0 : Int32)) 8 (0 : Int32)) 9))) 12) + (1 : Int32)))), (467, r22.1), (469, r22.2), (471, (I 472)), (472, (I 471))]) (E := q_ws E []) hd (Nat.le_of_ble_eq_true rfl) (Nat.le_of_ble_eq_true rfl) 4096 hr23 ?_
  refine q_Jmrg (lI' := [(457, r23.1), (459, r23.2.1), (460, r23.2.2.1), (462, r23.2.2.2.1), (465, r23.2.2.2.2.1), (466, r23.2.2.2.2.2.1), (467, r23.2.2.2.2.2.2.1), (468, r23.2.2.2.2.2.2.2.1), (469, r23.2.2.2.2.2.2.2.2.1), (471, r23.2.2.2.2.2.2.2.2.2), (472, (I 471))]) (lE' := []) rfl rfl ?_
  refine q_blk 2 [] (c' := q_kc (t, r, m, 499, 529, ext, rx, L) I E 48 [some (.ref 457), some (.ref 472), some (.int ((I 457) 7)), some (.int (0 : Int32)), none, none] [] [(457, r23.1), (459, r23.2.1), (460, r23.2.2.1), (462, r23.2.2.2.1), (465, r23.2.2.2.2.1), (466, r23.2.2.2.2.2.1), (467, r23.2.2.2.2.2.2.1), (468, r23.2.2.2.2.2.2.2.1), (469, r23.2.2.2.2.2.2.2.2.1), (471, r23.2.2.2.2.2.2.2.2.2), (472, (I 471))] []) ok_X2_copyHalf rfl q_cn ?_
  obtain ⟨r24, hr24, hf⟩ := q_bd hf
  refine lp_X2_copyHalf_L48_457 (I := q_ws I [(457, r23.1), (459, r23.2.1), (460, r23.2.2.1), (462, r23.2.2.2.1), (465, r23.2.2.2.2.1), (466, r23.2.2.2.2.2.1), (467, r23.2.2.2.2.2.2.1), (468, r23.2.2.2.2.2.2.2.1), (469, r23.2.2.2.2.2.2.2.2.1), (471, r23.2.2.2.2.2.2.2.2.2), (472, (I 471))]) (E := q_ws E []) hd (Nat.le_of_ble_eq_true rfl) (Nat.le_of_ble_eq_true rfl) 4096 hr24 ?_
  refine q_Jmrg (lI' := [(457, r24.1), (459, r24.2.1), (460, r24.2.2.1), (462, r24.2.2.2.1), (465, r24.2.2.2.2.1), (466, r24.2.2.2.2.2.1), (467, r24.2.2.2.2.2.2.1), (468, r24.2.2.2.2.2.2.2.1), (469, r24.2.2.2.2.2.2.2.2.1), (471, r24.2.2.2.2.2.2.2.2.2), (472, (I 471))]) (lE' := []) rfl rfl ?_
  refine q_blk 2 [] (c' := q_kc (t, r, m, 499, 529, ext, rx, L) I E 83 [some (.ref 457), some (.ref 472), some (.int ((I 457) 7)), some (.int (0 : Int32)), none, none] [] [(457, r24.1), (459, r24.2.1), (460, r24.2.2.1), (462, r24.2.2.2.1), (465, r24.2.2.2.2.1), (466, r24.2.2.2.2.2.1), (467, r24.2.2.2.2.2.2.1), (468, r24.2.2.2.2.2.2.2.1), (469, r24.2.2.2.2.2.2.2.2.1), (471, r24.2.2.2.2.2.2.2.2.2), (472, (I 471))] []) ok_X2_copyHalf rfl q_cn ?_
  obtain ⟨r25, hr25, hf⟩ := q_bd hf
  refine lp_X2_copyHalf_L83_457 (I := q_ws I [(457, r24.1), (459, r24.2.1), (460, r24.2.2.1), (462, r24.2.2.2.1), (465, r24.2.2.2.2.1), (466, r24.2.2.2.2.2.1), (467, r24.2.2.2.2.2.2.1), (468, r24.2.2.2.2.2.2.2.1), (469, r24.2.2.2.2.2.2.2.2.1), (471, r24.2.2.2.2.2.2.2.2.2), (472, (I 471))]) (E := q_ws E []) hd (Nat.le_of_ble_eq_true rfl) (Nat.le_of_ble_eq_true rfl) 4096 hr25 ?_
  refine q_Jmrg (lI' := [(457, r25.1), (459, r25.2.1), (460, r25.2.2.1), (462, r25.2.2.2.1), (465, r25.2.2.2.2.1), (466, r25.2.2.2.2.2.1), (467, r25.2.2.2.2.2.2.1), (468, r25.2.2.2.2.2.2.2.1), (469, r25.2.2.2.2.2.2.2.2.1), (471, r25.2.2.2.2.2.2.2.2.2), (472, (I 471))]) (lE' := []) rfl rfl ?_
  refine q_blk 3 [] (c' := q_kc (t, r, m, 499, 529, ext, rx, L) I E 118 [some (.ref 457), some (.ref 472), some (.int ((I 457) 7)), none, none, none] [.int ((I 457) 7), .ref 472, .ref 457] [(457, r25.1), (459, r25.2.1), (460, r25.2.2.1), (462, r25.2.2.2.1), (465, r25.2.2.2.2.1), (466, r25.2.2.2.2.2.1), (467, r25.2.2.2.2.2.2.1), (468, r25.2.2.2.2.2.2.2.1), (469, r25.2.2.2.2.2.2.2.2.1), (471, r25.2.2.2.2.2.2.2.2.2), (472, (I 471))] []) ok_X2_copyHalf rfl q_cn ?_
  obtain ⟨r26, hr26, hf⟩ := q_bd hf
  refine q_kV (M2 := m_X2_loseRest) (As := [.ref 472, .int ((I 457) 7)]) (b := 457) (v2 := some (.int r26.1)) ok_X2_copyHalf ok_X2_loseRest cv_X2_loseRest (ct_X2_loseRest_457_472 (d := 2) (Nat.le_refl _) hr26) rfl rfl (Or.inl rfl) rfl rfl rfl rfl (Nat.le_trans (Nat.le_of_ble_eq_true rfl) hd) (Nat.le_of_ble_eq_true rfl) (Nat.le_of_ble_eq_true rfl) (Nat.le_of_ble_eq_true rfl) (fun x hx => absurd hx List.not_mem_nil) (q_nmL0 _) (q_nmS0 _) rfl (pos' := 119) (st' := [.int r26.1]) (lI' := [(457, r26.2.1), (459, r26.2.2), (460, r25.2.2.1), (462, r25.2.2.2.1), (465, r25.2.2.2.2.1), (466, r25.2.2.2.2.2.1), (467, r25.2.2.2.2.2.2.1), (468, r25.2.2.2.2.2.2.2.1), (469, r25.2.2.2.2.2.2.2.2.1), (471, r25.2.2.2.2.2.2.2.2.2), (472, (I 471))]) (lE' := []) rfl rfl rfl rfl ?_
  cases hf
  exact q_kri ok_X2_copyHalf rfl rfl rfl (Nat.le_of_ble_eq_true rfl) (Nat.le_of_ble_eq_true rfl) ⟨rfl, q_hpe (q_fin [457, 459, 460, 462, 465, 466, 467, 468, 469, 471, 472] rfl) (q_fin [] rfl)⟩
set_option maxHeartbeats 4000000 in
theorem lp_X1_add_L2_458 {g : q_G} {d mc ms : Nat} {h0 : q_H} {Q : (Option Value ⊕ String) → q_H → Prop} {k n : Nat} {t : Nat} {r : Nat} {m : Nat} {z : Nat} {N : Nat} {ext : Nat → q_Sh} {rx : Nat → Nat → Option Nat} {L : Nat → Nat → Int64} (hd : 1 ≤ d) (hk : k ≤ mc) (hn : n ≤ ms)  {v1 : Int32} {v2 : Int32} {v3 : Int32} : ∀ (fu : Nat) {I : Nat → Nat → Int32} {E : Nat → Nat → Option Nat} {v4 : Int32} {r0 : Nat × Int32} (hf : f_X1_add_L2 (I 459) fu v4 = some r0) (hK0 : r0.1 = 0 → q_J g m_X1_add d mc ms h0 [] Q k n (q_kc (t, r, m, z, N, ext, rx, L) I E 55 [none, none, none, none, none, none] [] [] [])) (hK1 : r0.1 = 1 → q_J g m_X1_add d mc ms h0 [] Q k n (q_kc (t, r, m, z, N, ext, rx, L) I E 10 [some (.ref 458), some (.int v1), some (.int v2), some (.int v3), some (.int r0.2), none] [] [] [])), q_J g m_X1_add d mc ms h0 [] Q k n (2, [some (.ref 458), some (.int v1), some (.int v2), some (.int v3), some (.int v4), none], [], q_hp (t, r, m, z, N, ext, rx, L) I E) := by
  intro fu
  induction fu with
  | zero =>
    intro I E v4 r0 hf hK0 hK1
    rw [f_X1_add_L2] at hf
    cases hf
  | succ fu ih =>
    intro I E v4 r0 hf hK0 hK1
    rw [f_X1_add_L2] at hf
    change q_J g m_X1_add d mc ms h0 [] Q k n (q_kc (t, r, m, z, N, ext, rx, L) I E 2 [some (.ref 458), some (.int v1), some (.int v2), some (.int v3), some (.int v4), none] [] [] [])
    refine q_blf 2 [] (a := q_kc (t, r, m, z, N, ext, rx, L) I E 55 [some (.ref 458), some (.int v1), some (.int v2), some (.int v3), some (.int v4), none] [] [] []) (b := q_kc (t, r, m, z, N, ext, rx, L) I E 5 [some (.ref 458), some (.int v1), some (.int v2), some (.int v3), some (.int v4), none] [] [] []) (P := (128 : Int32) ≤ v4) ok_X1_add rfl q_cn (fun h1 => ?_) (fun h1 => ?_)
    · have hf := q_ip h1 hf
      refine q_less (ls' := [none, none, none, none, none, none]) (q_sb1 (q_sb1 (q_sb1 (q_sb1 (q_sb1 (q_sb1 q_sb0)))))) ?_
      cases hf
      exact q_Jpad [] [] rfl rfl (hK0 rfl)
    · have hf := q_in h1 hf
      obtain ⟨j2, hj2, hf⟩ := q_bd hf
      refine q_blf 4 [j2] (a := q_kc (t, r, m, z, N, ext, rx, L) I E 53 [some (.ref 458), some (.int v1), some (.int v2), some (.int v3), some (.int v4), none] [] [] []) (b := q_kc (t, r, m, z, N, ext, rx, L) I E 10 [some (.ref 458), some (.int v1), some (.int v2), some (.int v3), some (.int v4), none] [] [] []) (P := ¬ ((I 459) j2) = 0) ok_X1_add rfl (q_cc hj2 q_cn) (fun h3 => ?_) (fun h3 => ?_)
      · have hf := q_ip h3 hf
        refine q_blk 2 [] (c' := q_kc (t, r, m, z, N, ext, rx, L) I E 2 [some (.ref 458), some (.int v1), some (.int v2), some (.int v3), some (.int (v4 + 1)), none] [] [] []) ok_X1_add rfl q_cn ?_
        exact ih (I := q_ws I []) (E := q_ws E []) hf (fun hz => q_Jmrg rfl rfl (hK0 hz)) (fun hz => q_Jmrg rfl rfl (hK1 hz))
      · have hf := q_in h3 hf
        cases hf
        exact q_Jpad [] [] rfl rfl (hK1 rfl)
set_option maxHeartbeats 4000000 in
theorem lp_X1_add_L37_458 {g : q_G} {d mc ms : Nat} {h0 : q_H} {Q : (Option Value ⊕ String) → q_H → Prop} {k n : Nat} {t : Nat} {r : Nat} {m : Nat} {z : Nat} {N : Nat} {ext : Nat → q_Sh} {rx : Nat → Nat → Option Nat} {L : Nat → Nat → Int64} (hd : 1 ≤ d) (hk : k ≤ mc) (hn : n ≤ ms)  {v4 : Int32} : ∀ (fu : Nat) {I : Nat → Nat → Int32} {E : Nat → Nat → Option Nat} {v5 : Int32} {r0 : (Nat → Int32)} (hf : f_X1_add_L37 v4 fu (I 464) v5 = some r0) (hK0 : q_J g m_X1_add d mc ms h0 [] Q k n (q_kc (t, r, m, z, N, ext, rx, L) I E 51 [none, none, none, none, some (.int v4), none] [] [(464, r0)] [])), q_J g m_X1_add d mc ms h0 [] Q k n (37, [some (.ref 458), none, none, none, some (.int v4), some (.int v5)], [], q_hp (t, r, m, z, N, ext, rx, L) I E) := by
  intro fu
  induction fu with
  | zero =>
    intro I E v5 r0 hf hK0
    rw [f_X1_add_L37] at hf
    cases hf
  | succ fu ih =>
    intro I E v5 r0 hf hK0
    rw [f_X1_add_L37] at hf
    change q_J g m_X1_add d mc ms h0 [] Q k n (q_kc (t, r, m, z, N, ext, rx, L) I E 37 [some (.ref 458), none, none, none, some (.int v4), some (.int v5)] [] [] [])
    refine q_blf 2 [] (a := q_kc (t, r, m, z, N, ext, rx, L) I E 51 [some (.ref 458), none, none, none, some (.int v4), some (.int v5)] [] [] []) (b := q_kc (t, r, m, z, N, ext, rx, L) I E 40 [some (.ref 458), none, none, none, some (.int v4), some (.int v5)] [] [] []) (P := (3 : Int32) ≤ v5) ok_X1_add rfl q_cn (fun h4 => ?_) (fun h4 => ?_)
    · have hf := q_ip h4 hf
      refine q_less (ls' := [none, none, none, none, some (.int v4), none]) (q_sb1 (q_sb1 (q_sb1 (q_sb1 (q_sb2 (q_sb1 q_sb0)))))) ?_
      cases hf
      exact q_Jpad [464] [] rfl rfl hK0
    · have hf := q_in h4 hf
      obtain ⟨j5, hj5, hf⟩ := q_bd hf
      refine q_blk 11 [j5] (c' := q_kc (t, r, m, z, N, ext, rx, L) I E 37 [some (.ref 458), none, none, none, some (.int v4), some (.int (v5 + 1))] [] [(464, (q_up (I 464) j5 (-1 : Int32)))] []) ok_X1_add rfl (q_cc hj5 q_cn) ?_
      exact ih (I := q_ws I [(464, (q_up (I 464) j5 (-1 : Int32)))]) (E := q_ws E []) hf (q_Jmrg rfl rfl hK0)
set_option maxHeartbeats 4000000 in
theorem ct_X1_add_458 {g : q_G} {t : Nat} {r : Nat} {m : Nat} {z : Nat} {N : Nat} {ext : Nat → q_Sh} {rx : Nat → Nat → Option Nat} {L : Nat → Nat → Int64} {d : Nat} (hd : 1 ≤ d)  {I : Nat → Nat → Int32} {E : Nat → Nat → Option Nat} {x1 : Int32} {x2 : Int32} {x3 : Int32} {r0 : Int32 × (Nat → Int32) × (Nat → Int32) × (Nat → Int32) × (Nat → Int32) × (Nat → Int32) × (Nat → Int32)} (hf : f_X1_add (I 459) (I 460) (I 461) (I 462) (I 463) (I 464) x1 x2 x3 = some r0) : q_Ct g m_X1_add d 0 0 [] [.ref 458, .int x1, .int x2, .int x3] (q_hp (t, r, m, z, N, ext, rx, L) I E) (fun o h' => o = .inl (some (.int r0.1)) ∧ h' = q_hp (t, r, m, z, N, ext, rx, L) (q_ws I [(459, r0.2.1), (460, r0.2.2.1), (461, r0.2.2.2.1), (462, r0.2.2.2.2.1), (463, r0.2.2.2.2.2.1), (464, r0.2.2.2.2.2.2)]) (q_ws E [])) := by
  rw [f_X1_add] at hf
  refine q_Ct_of ok_X1_add (Nat.le_of_ble_eq_true rfl) ?_ _ rfl rfl
  change q_J g m_X1_add d 0 0 _ [] _ 0 0 (q_kc (t, r, m, z, N, ext, rx, L) I E 0 [some (.ref 458), some (.int x1), some (.int x2), some (.int x3), none, none] [] [] [])
  refine q_blk 2 [] (c' := q_kc (t, r, m, z, N, ext, rx, L) I E 2 [some (.ref 458), some (.int x1), some (.int x2), some (.int x3), some (.int (0 : Int32)), none] [] [] []) ok_X1_add rfl q_cn ?_
  obtain ⟨r6, hr6, hf⟩ := q_bd hf
  refine lp_X1_add_L2_458 (I := q_ws I []) (E := q_ws E []) hd (Nat.le_of_ble_eq_true rfl) (Nat.le_of_ble_eq_true rfl) 4096 hr6 ?_ ?_
  · intro hz0
    have hf := q_ip hz0 hf
    refine q_Jmrg (lI' := []) (lE' := []) rfl rfl ?_
    refine q_blk 1 [] (c' := q_kc (t, r, m, z, N, ext, rx, L) I E 56 [none, none, none, none, none, none] [.int (-1 : Int32)] [] []) ok_X1_add rfl q_cn ?_
    cases hf
    exact q_kri ok_X1_add rfl rfl rfl (Nat.le_of_ble_eq_true rfl) (Nat.le_of_ble_eq_true rfl) ⟨rfl, q_hpe (q_fin [459, 460, 461, 462, 463, 464] rfl) (q_fin [] rfl)⟩
  · intro hz1
    have hf := q_in (fun h9 => absurd (hz1.symm.trans h9) (by decide)) hf
    refine q_Jmrg (lI' := []) (lE' := []) rfl rfl ?_
    obtain ⟨j7, hj7, hf⟩ := q_bd hf
    obtain ⟨j8, hj8, hf⟩ := q_bd hf
    obtain ⟨j9, hj9, hf⟩ := q_bd hf
    obtain ⟨j10, hj10, hf⟩ := q_bd hf
    obtain ⟨j11, hj11, hf⟩ := q_bd hf
    refine q_blk 27 [j7, j8, j9, j10, j11] (c' := q_kc (t, r, m, z, N, ext, rx, L) I E 37 [some (.ref 458), some (.int x1), some (.int x2), some (.int x3), some (.int r6.2), some (.int (0 : Int32))] [] [(459, (q_up (I 459) j7 (1 : Int32))), (460, (q_up (I 460) j8 x1)), (461, (q_up (I 461) j9 x2)), (462, (q_up (I 462) j10 (0 : Int32))), (463, (q_up (I 463) j11 x3))] []) ok_X1_add rfl (q_cc hj11 (q_cc hj10 (q_cc hj9 (q_cc hj8 (q_cc hj7 q_cn))))) ?_
    refine q_less (ls' := [some (.ref 458), none, none, none, some (.int r6.2), some (.int (0 : Int32))]) (q_sb2 (q_sb1 (q_sb1 (q_sb1 (q_sb2 (q_sb2 q_sb0)))))) ?_
    obtain ⟨r12, hr12, hf⟩ := q_bd hf
    refine lp_X1_add_L37_458 (I := q_ws I [(459, (q_up (I 459) j7 (1 : Int32))), (460, (q_up (I 460) j8 x1)), (461, (q_up (I 461) j9 x2)), (462, (q_up (I 462) j10 (0 : Int32))), (463, (q_up (I 463) j11 x3))]) (E := q_ws E []) hd (Nat.le_of_ble_eq_true rfl) (Nat.le_of_ble_eq_true rfl) 4096 hr12 ?_
    refine q_Jmrg (lI' := [(459, (q_up (I 459) j7 (1 : Int32))), (460, (q_up (I 460) j8 x1)), (461, (q_up (I 461) j9 x2)), (462, (q_up (I 462) j10 (0 : Int32))), (463, (q_up (I 463) j11 x3)), (464, r12)]) (lE' := []) rfl rfl ?_
    refine q_blk 1 [] (c' := q_kc (t, r, m, z, N, ext, rx, L) I E 52 [none, none, none, none, some (.int r6.2), none] [.int r6.2] [(459, (q_up (I 459) j7 (1 : Int32))), (460, (q_up (I 460) j8 x1)), (461, (q_up (I 461) j9 x2)), (462, (q_up (I 462) j10 (0 : Int32))), (463, (q_up (I 463) j11 x3)), (464, r12)] []) ok_X1_add rfl q_cn ?_
    cases hf
    exact q_kri ok_X1_add rfl rfl rfl (Nat.le_of_ble_eq_true rfl) (Nat.le_of_ble_eq_true rfl) ⟨rfl, q_hpe (q_fin [459, 460, 461, 462, 463, 464] rfl) (q_fin [] rfl)⟩
set_option maxHeartbeats 4000000 in
theorem ct_X2_hold_457 {g : q_G} {t : Nat} {r : Nat} {m : Nat} {z : Nat} {N : Nat} {ext : Nat → q_Sh} {rx : Nat → Nat → Option Nat} {L : Nat → Nat → Int64} {d : Nat} (hd : 1 ≤ d)  {I : Nat → Nat → Int32} {E : Nat → Nat → Option Nat} {x1 : Int32} {x2 : Int32} {r0 : (Nat → Int32)} (hf : f_X2_hold (I 470) x1 x2 = some r0) : q_Ct g m_X2_hold d 0 0 [] [.ref 457, .int x1, .int x2] (q_hp (t, r, m, z, N, ext, rx, L) I E) (fun o h' => o = .inl none ∧ h' = q_hp (t, r, m, z, N, ext, rx, L) (q_ws I [(470, r0)]) (q_ws E [])) := by
  rw [f_X2_hold] at hf
  refine q_Ct_of ok_X2_hold (Nat.le_of_ble_eq_true rfl) ?_ _ rfl rfl
  change q_J g m_X2_hold d 0 0 _ [] _ 0 0 (q_kc (t, r, m, z, N, ext, rx, L) I E 0 [some (.ref 457), some (.int x1), some (.int x2)] [] [] [])
  refine q_blf 1 [] (a := q_kc (t, r, m, z, N, ext, rx, L) I E 10 [some (.ref 457), some (.int x1), some (.int x2)] [] [] []) (b := q_kc (t, r, m, z, N, ext, rx, L) I E 2 [some (.ref 457), some (.int x1), some (.int x2)] [] [] []) (P := x1 < 0) ok_X2_hold rfl q_cn (fun h1 => ?_) (fun h1 => ?_)
  · have hf := q_ip h1 hf
    cases hf
    exact q_krv ok_X2_hold rfl rfl (Nat.le_of_ble_eq_true rfl) (Nat.le_of_ble_eq_true rfl) ⟨rfl, q_hpe (q_fin [470] rfl) (q_fin [] rfl)⟩
  · have hf := q_in h1 hf
    refine q_blf 2 [] (a := q_kc (t, r, m, z, N, ext, rx, L) I E 10 [some (.ref 457), some (.int x1), some (.int x2)] [] [] []) (b := q_kc (t, r, m, z, N, ext, rx, L) I E 5 [some (.ref 457), some (.int x1), some (.int x2)] [] [] []) (P := (6 : Int32) ≤ x1) ok_X2_hold rfl q_cn (fun h2 => ?_) (fun h2 => ?_)
    · have hf := q_ip h2 hf
      cases hf
      exact q_krv ok_X2_hold rfl rfl (Nat.le_of_ble_eq_true rfl) (Nat.le_of_ble_eq_true rfl) ⟨rfl, q_hpe (q_fin [470] rfl) (q_fin [] rfl)⟩
    · have hf := q_in h2 hf
      obtain ⟨j3, hj3, hf⟩ := q_bd hf
      refine q_blk 5 [j3] (c' := q_kc (t, r, m, z, N, ext, rx, L) I E 10 [some (.ref 457), some (.int x1), some (.int x2)] [] [(470, (q_up (I 470) j3 x2))] []) ok_X2_hold rfl (q_cc hj3 q_cn) ?_
      cases hf
      exact q_krv ok_X2_hold rfl rfl (Nat.le_of_ble_eq_true rfl) (Nat.le_of_ble_eq_true rfl) ⟨rfl, q_hpe (q_fin [470] rfl) (q_fin [] rfl)⟩
set_option maxHeartbeats 4000000 in
theorem ct_X2_makeBale_457 {g : q_G} {t : Nat} {r : Nat} {m : Nat} {ext : Nat → q_Sh} {rx : Nat → Nat → Option Nat} {L : Nat → Nat → Int64} {d : Nat} (hd : 4 ≤ d)  {I : Nat → Nat → Int32} {E : Nat → Nat → Option Nat} {x1 : Int32} {x2 : Int32} {x3 : Int32} {r0 : Bool × (Nat → Int32) × (Nat → Int32) × (Nat → Int32) × (Nat → Int32) × (Nat → Int32) × (Nat → Int32) × (Nat → Int32) × (Nat → Int32) × (Nat → Int32) × (Nat → Int32) × (Nat → Int32) × (Nat → Int32) × (Nat → Int32) × (Nat → Int32) × (Nat → Int32)} (hf : f_X2_makeBale (I 402) (I 457) (I 459) (I 460) (I 461) (I 462) (I 463) (I 464) (I 465) (I 466) (I 467) (I 468) (I 469) (I 470) (I 471) (I 472) x1 x2 x3 = some r0) : q_Ct g m_X2_makeBale d 0 0 [471, 472] [.ref 457, .int x1, .int x2, .int x3] (q_hp (t, r, m, 499, 529, ext, rx, L) I E) (fun o h' => o = .inl (some (.int (q_bz r0.1))) ∧ h' = q_hp (t, r, m, 499, 529, ext, rx, L) (q_ws I [(457, r0.2.1), (459, r0.2.2.1), (460, r0.2.2.2.1), (461, r0.2.2.2.2.1), (462, r0.2.2.2.2.2.1), (463, r0.2.2.2.2.2.2.1), (464, r0.2.2.2.2.2.2.2.1), (465, r0.2.2.2.2.2.2.2.2.1), (466, r0.2.2.2.2.2.2.2.2.2.1), (467, r0.2.2.2.2.2.2.2.2.2.2.1), (468, r0.2.2.2.2.2.2.2.2.2.2.2.1), (469, r0.2.2.2.2.2.2.2.2.2.2.2.2.1), (470, r0.2.2.2.2.2.2.2.2.2.2.2.2.2.1), (471, r0.2.2.2.2.2.2.2.2.2.2.2.2.2.2.1), (472, r0.2.2.2.2.2.2.2.2.2.2.2.2.2.2.2)]) (q_ws E [])) := by
  rw [f_X2_makeBale] at hf
  refine q_Ct_of ok_X2_makeBale (Nat.le_of_ble_eq_true rfl) ?_ _ rfl rfl
  change q_J g m_X2_makeBale d 0 0 _ [471, 472] _ 0 0 (q_kc (t, r, m, 499, 529, ext, rx, L) I E 0 [some (.ref 457), some (.int x1), some (.int x2), some (.int x3), none] [] [] [])
  refine q_blk 1 [] (c' := q_kc (t, r, m, 499, 529, ext, rx, L) I E 1 [some (.ref 457), some (.int x1), some (.int x2), some (.int x3), none] [.ref 457] [] []) ok_X2_makeBale rfl q_cn ?_
  obtain ⟨r1, hr1, hf⟩ := q_bd hf
  refine q_kV (M2 := m_X2_freePlaces) (As := []) (b := 457) (v2 := some (.int r1)) ok_X2_makeBale ok_X2_freePlaces cv_X2_freePlaces (ct_X2_freePlaces_457 (d := 1) (Nat.le_refl _) hr1) rfl rfl (Or.inl rfl) rfl rfl rfl rfl (Nat.le_trans (Nat.le_of_ble_eq_true rfl) hd) (Nat.le_of_ble_eq_true rfl) (Nat.le_of_ble_eq_true rfl) (Nat.le_of_ble_eq_true rfl) (fun x hx => absurd hx List.not_mem_nil) (q_nmL0 _) (q_nmS0 _) rfl (pos' := 2) (st' := [.int r1]) (lI' := []) (lE' := []) rfl rfl rfl rfl ?_
  refine q_blf 1 [] (a := q_kc (t, r, m, 499, 529, ext, rx, L) I E 7 [some (.ref 457), some (.int x1), some (.int x2), some (.int x3), none] [] [] []) (b := q_kc (t, r, m, 499, 529, ext, rx, L) I E 4 [some (.ref 457), some (.int x1), some (.int x2), some (.int x3), none] [] [] []) (P := x2 ≤ r1) ok_X2_makeBale rfl q_cn (fun h2 => ?_) (fun h2 => ?_)
  · have hf := q_ip h2 hf
    refine q_blk 1 [] (c' := q_kc (t, r, m, 499, 529, ext, rx, L) I E 8 [some (.ref 457), some (.int x1), some (.int x2), some (.int x3), none] [.ref 457] [] []) ok_X2_makeBale rfl q_cn ?_
    obtain ⟨r3, hr3, hf⟩ := q_bd hf
    refine q_kV (M2 := m_X2_freePlaces) (As := []) (b := 457) (v2 := some (.int r3)) ok_X2_makeBale ok_X2_freePlaces cv_X2_freePlaces (ct_X2_freePlaces_457 (d := 1) (Nat.le_refl _) hr3) rfl rfl (Or.inl rfl) rfl rfl rfl rfl (Nat.le_trans (Nat.le_of_ble_eq_true rfl) hd) (Nat.le_of_ble_eq_true rfl) (Nat.le_of_ble_eq_true rfl) (Nat.le_of_ble_eq_true rfl) (fun x hx => absurd hx List.not_mem_nil) (q_nmL0 _) (q_nmS0 _) rfl (pos' := 9) (st' := [.int r3]) (lI' := []) (lE' := []) rfl rfl rfl rfl ?_
    refine q_blf 1 [] (a := q_kc (t, r, m, 499, 529, ext, rx, L) I E 13 [some (.ref 457), some (.int x1), some (.int x2), some (.int x3), none] [] [] []) (b := q_kc (t, r, m, 499, 529, ext, rx, L) I E 11 [some (.ref 457), some (.int x1), some (.int x2), some (.int x3), none] [] [] []) (P := x2 ≤ r3) ok_X2_makeBale rfl q_cn (fun h4 => ?_) (fun h4 => ?_)
    · have hf := q_ip h4 hf
      refine q_blk 6 [] (c' := q_kc (t, r, m, 499, 529, ext, rx, L) I E 19 [some (.ref 457), some (.int x1), some (.int x2), some (.int x3), none] [.int x3, .int x2, .int ((I 457) 8), .ref 458] [] []) ok_X2_makeBale rfl q_cn ?_
      obtain ⟨r5, hr5, hf⟩ := q_bd hf
      refine q_kV (M2 := m_X1_add) (As := [.int ((I 457) 8), .int x2, .int x3]) (b := 458) (v2 := some (.int r5.1)) ok_X2_makeBale ok_X1_add cv_X1_add (ct_X1_add_458 (d := 1) (Nat.le_refl _) hr5) rfl rfl (Or.inl rfl) rfl rfl rfl rfl (Nat.le_trans (Nat.le_of_ble_eq_true rfl) hd) (Nat.le_of_ble_eq_true rfl) (Nat.le_of_ble_eq_true rfl) (Nat.le_of_ble_eq_true rfl) (fun x hx => absurd hx List.not_mem_nil) (q_nmL0 _) (q_nmS0 _) rfl (pos' := 20) (st' := [.int r5.1]) (lI' := [(459, r5.2.1), (460, r5.2.2.1), (461, r5.2.2.2.1), (462, r5.2.2.2.2.1), (463, r5.2.2.2.2.2.1), (464, r5.2.2.2.2.2.2)]) (lE' := []) rfl rfl rfl rfl ?_
      refine q_blf 3 [] (a := q_kc (t, r, m, 499, 529, ext, rx, L) I E 26 [some (.ref 457), some (.int x1), some (.int x2), some (.int x3), some (.int r5.1)] [] [(459, r5.2.1), (460, r5.2.2.1), (461, r5.2.2.2.1), (462, r5.2.2.2.2.1), (463, r5.2.2.2.2.2.1), (464, r5.2.2.2.2.2.2)] []) (b := q_kc (t, r, m, 499, 529, ext, rx, L) I E 24 [some (.ref 457), some (.int x1), some (.int x2), some (.int x3), some (.int r5.1)] [] [(459, r5.2.1), (460, r5.2.2.1), (461, r5.2.2.2.1), (462, r5.2.2.2.2.1), (463, r5.2.2.2.2.2.1), (464, r5.2.2.2.2.2.2)] []) (P := ¬ r5.1 = (-1 : Int32)) ok_X2_makeBale rfl q_cn (fun h6 => ?_) (fun h6 => ?_)
      · have hf := q_ip h6 hf
        refine q_blk 3 [] (c' := q_kc (t, r, m, 499, 529, ext, rx, L) I E 29 [some (.ref 457), some (.int x1), some (.int x2), some (.int x3), some (.int r5.1)] [.int r5.1, .int x1, .ref 457] [(459, r5.2.1), (460, r5.2.2.1), (461, r5.2.2.2.1), (462, r5.2.2.2.2.1), (463, r5.2.2.2.2.2.1), (464, r5.2.2.2.2.2.2)] []) ok_X2_makeBale rfl q_cn ?_
        obtain ⟨r7, hr7, hf⟩ := q_bd hf
        refine q_kV (M2 := m_X2_hold) (As := [.int x1, .int r5.1]) (b := 457) (v2 := none) ok_X2_makeBale ok_X2_hold cv_X2_hold (ct_X2_hold_457 (d := 1) (Nat.le_refl _) hr7) rfl rfl (Or.inl rfl) rfl rfl rfl rfl (Nat.le_trans (Nat.le_of_ble_eq_true rfl) hd) (Nat.le_of_ble_eq_true rfl) (Nat.le_of_ble_eq_true rfl) (Nat.le_of_ble_eq_true rfl) (fun x hx => absurd hx List.not_mem_nil) (q_nmL0 _) (q_nmS0 _) rfl (pos' := 30) (st' := []) (lI' := [(459, r5.2.1), (460, r5.2.2.1), (461, r5.2.2.2.1), (462, r5.2.2.2.2.1), (463, r5.2.2.2.2.2.1), (464, r5.2.2.2.2.2.2), (470, r7)]) (lE' := []) rfl rfl rfl rfl ?_
        refine q_blk 3 [] (c' := q_kc (t, r, m, 499, 529, ext, rx, L) I E 33 [some (.ref 457), some (.int x1), some (.int x2), some (.int x3), some (.int r5.1)] [.int x2, .int r5.1, .ref 457] [(459, r5.2.1), (460, r5.2.2.1), (461, r5.2.2.2.1), (462, r5.2.2.2.2.1), (463, r5.2.2.2.2.2.1), (464, r5.2.2.2.2.2.2), (470, r7)] []) ok_X2_makeBale rfl q_cn ?_
        obtain ⟨r8, hr8, hf⟩ := q_bd hf
        refine q_kV (M2 := m_X2_layInRow) (As := [.int r5.1, .int x2]) (b := 457) (v2 := none) ok_X2_makeBale ok_X2_layInRow cv_X2_layInRow (ct_X2_layInRow_457 (d := 1) (Nat.le_refl _) hr8) rfl rfl (Or.inl rfl) rfl rfl rfl rfl (Nat.le_trans (Nat.le_of_ble_eq_true rfl) hd) (Nat.le_of_ble_eq_true rfl) (Nat.le_of_ble_eq_true rfl) (Nat.le_of_ble_eq_true rfl) (fun x hx => absurd hx List.not_mem_nil) (q_nmL0 _) (q_nmS0 _) rfl (pos' := 34) (st' := []) (lI' := [(457, r8.1), (459, r5.2.1), (460, r5.2.2.1), (461, r5.2.2.2.1), (462, r5.2.2.2.2.1), (463, r5.2.2.2.2.2.1), (464, r5.2.2.2.2.2.2), (470, r7), (471, r8.2)]) (lE' := []) rfl rfl rfl rfl ?_
        refine q_blk 1 [] (c' := q_kc (t, r, m, 499, 529, ext, rx, L) I E 35 [some (.ref 457), some (.int x1), some (.int x2), some (.int x3), some (.int r5.1)] [.int (1 : Int32)] [(457, r8.1), (459, r5.2.1), (460, r5.2.2.1), (461, r5.2.2.2.1), (462, r5.2.2.2.2.1), (463, r5.2.2.2.2.2.1), (464, r5.2.2.2.2.2.2), (470, r7), (471, r8.2)] []) ok_X2_makeBale rfl q_cn ?_
        cases hf
        exact q_kri ok_X2_makeBale rfl rfl rfl (Nat.le_of_ble_eq_true rfl) (Nat.le_of_ble_eq_true rfl) ⟨rfl, q_hpe (q_fin [457, 459, 460, 461, 462, 463, 464, 465, 466, 467, 468, 469, 470, 471, 472] rfl) (q_fin [] rfl)⟩
      · have hf := q_in h6 hf
        refine q_blk 1 [] (c' := q_kc (t, r, m, 499, 529, ext, rx, L) I E 25 [some (.ref 457), some (.int x1), some (.int x2), some (.int x3), some (.int r5.1)] [.int (0 : Int32)] [(459, r5.2.1), (460, r5.2.2.1), (461, r5.2.2.2.1), (462, r5.2.2.2.2.1), (463, r5.2.2.2.2.2.1), (464, r5.2.2.2.2.2.2)] []) ok_X2_makeBale rfl q_cn ?_
        cases hf
        exact q_kri ok_X2_makeBale rfl rfl rfl (Nat.le_of_ble_eq_true rfl) (Nat.le_of_ble_eq_true rfl) ⟨rfl, q_hpe (q_fin [457, 459, 460, 461, 462, 463, 464, 465, 466, 467, 468, 469, 470, 471, 472] rfl) (q_fin [] rfl)⟩
    · have hf := q_in h4 hf
      refine q_blk 1 [] (c' := q_kc (t, r, m, 499, 529, ext, rx, L) I E 12 [some (.ref 457), some (.int x1), some (.int x2), some (.int x3), none] [.int (0 : Int32)] [] []) ok_X2_makeBale rfl q_cn ?_
      cases hf
      exact q_kri ok_X2_makeBale rfl rfl rfl (Nat.le_of_ble_eq_true rfl) (Nat.le_of_ble_eq_true rfl) ⟨rfl, q_hpe (q_fin [457, 459, 460, 461, 462, 463, 464, 465, 466, 467, 468, 469, 470, 471, 472] rfl) (q_fin [] rfl)⟩
  · have hf := q_in h2 hf
    refine q_blk 1 [] (c' := q_kc (t, r, m, 499, 529, ext, rx, L) I E 5 [some (.ref 457), some (.int x1), some (.int x2), some (.int x3), none] [.ref 457] [] []) ok_X2_makeBale rfl q_cn ?_
    obtain ⟨r9, hr9, hf⟩ := q_bd hf
    refine q_kV (M2 := m_X2_copyHalf) (As := []) (b := 457) (v2 := some (.int r9.1)) ok_X2_makeBale ok_X2_copyHalf cv_X2_copyHalf (ct_X2_copyHalf_457 (d := 3) (Nat.le_refl _) hr9) rfl rfl (Or.inl rfl) rfl rfl rfl rfl (Nat.le_trans (Nat.le_of_ble_eq_true rfl) hd) (Nat.le_of_ble_eq_true rfl) (Nat.le_of_ble_eq_true rfl) (Nat.le_of_ble_eq_true rfl) (fun x hx => hx) rfl rfl rfl (pos' := 6) (st' := [.int r9.1]) (lI' := [(457, r9.2.1), (459, r9.2.2.1), (460, r9.2.2.2.1), (462, r9.2.2.2.2.1), (465, r9.2.2.2.2.2.1), (466, r9.2.2.2.2.2.2.1), (467, r9.2.2.2.2.2.2.2.1), (468, r9.2.2.2.2.2.2.2.2.1), (469, r9.2.2.2.2.2.2.2.2.2.1), (471, r9.2.2.2.2.2.2.2.2.2.2.1), (472, r9.2.2.2.2.2.2.2.2.2.2.2)]) (lE' := []) rfl rfl rfl rfl ?_
    refine q_blk 2 [] (c' := q_kc (t, r, m, 499, 529, ext, rx, L) I E 8 [some (.ref 457), some (.int x1), some (.int x2), some (.int x3), none] [.ref 457] [(457, r9.2.1), (459, r9.2.2.1), (460, r9.2.2.2.1), (462, r9.2.2.2.2.1), (465, r9.2.2.2.2.2.1), (466, r9.2.2.2.2.2.2.1), (467, r9.2.2.2.2.2.2.2.1), (468, r9.2.2.2.2.2.2.2.2.1), (469, r9.2.2.2.2.2.2.2.2.2.1), (471, r9.2.2.2.2.2.2.2.2.2.2.1), (472, r9.2.2.2.2.2.2.2.2.2.2.2)] []) ok_X2_makeBale rfl q_cn ?_
    obtain ⟨r10, hr10, hf⟩ := q_bd hf
    refine q_kV (M2 := m_X2_freePlaces) (As := []) (b := 457) (v2 := some (.int r10)) ok_X2_makeBale ok_X2_freePlaces cv_X2_freePlaces (ct_X2_freePlaces_457 (d := 1) (Nat.le_refl _) hr10) rfl rfl (Or.inl rfl) rfl rfl rfl rfl (Nat.le_trans (Nat.le_of_ble_eq_true rfl) hd) (Nat.le_of_ble_eq_true rfl) (Nat.le_of_ble_eq_true rfl) (Nat.le_of_ble_eq_true rfl) (fun x hx => absurd hx List.not_mem_nil) (q_nmL0 _) (q_nmS0 _) rfl (pos' := 9) (st' := [.int r10]) (lI' := [(457, r9.2.1), (459, r9.2.2.1), (460, r9.2.2.2.1), (462, r9.2.2.2.2.1), (465, r9.2.2.2.2.2.1), (466, r9.2.2.2.2.2.2.1), (467, r9.2.2.2.2.2.2.2.1), (468, r9.2.2.2.2.2.2.2.2.1), (469, r9.2.2.2.2.2.2.2.2.2.1), (471, r9.2.2.2.2.2.2.2.2.2.2.1), (472, r9.2.2.2.2.2.2.2.2.2.2.2)]) (lE' := []) rfl rfl rfl rfl ?_
    refine q_blf 1 [] (a := q_kc (t, r, m, 499, 529, ext, rx, L) I E 13 [some (.ref 457), some (.int x1), some (.int x2), some (.int x3), none] [] [(457, r9.2.1), (459, r9.2.2.1), (460, r9.2.2.2.1), (462, r9.2.2.2.2.1), (465, r9.2.2.2.2.2.1), (466, r9.2.2.2.2.2.2.1), (467, r9.2.2.2.2.2.2.2.1), (468, r9.2.2.2.2.2.2.2.2.1), (469, r9.2.2.2.2.2.2.2.2.2.1), (471, r9.2.2.2.2.2.2.2.2.2.2.1), (472, r9.2.2.2.2.2.2.2.2.2.2.2)] []) (b := q_kc (t, r, m, 499, 529, ext, rx, L) I E 11 [some (.ref 457), some (.int x1), some (.int x2), some (.int x3), none] [] [(457, r9.2.1), (459, r9.2.2.1), (460, r9.2.2.2.1), (462, r9.2.2.2.2.1), (465, r9.2.2.2.2.2.1), (466, r9.2.2.2.2.2.2.1), (467, r9.2.2.2.2.2.2.2.1), (468, r9.2.2.2.2.2.2.2.2.1), (469, r9.2.2.2.2.2.2.2.2.2.1), (471, r9.2.2.2.2.2.2.2.2.2.2.1), (472, r9.2.2.2.2.2.2.2.2.2.2.2)] []) (P := x2 ≤ r10) ok_X2_makeBale rfl q_cn (fun h11 => ?_) (fun h11 => ?_)
    · have hf := q_ip h11 hf
      refine q_blk 6 [] (c' := q_kc (t, r, m, 499, 529, ext, rx, L) I E 19 [some (.ref 457), some (.int x1), some (.int x2), some (.int x3), none] [.int x3, .int x2, .int (r9.2.1 8), .ref 458] [(457, r9.2.1), (459, r9.2.2.1), (460, r9.2.2.2.1), (462, r9.2.2.2.2.1), (465, r9.2.2.2.2.2.1), (466, r9.2.2.2.2.2.2.1), (467, r9.2.2.2.2.2.2.2.1), (468, r9.2.2.2.2.2.2.2.2.1), (469, r9.2.2.2.2.2.2.2.2.2.1), (471, r9.2.2.2.2.2.2.2.2.2.2.1), (472, r9.2.2.2.2.2.2.2.2.2.2.2)] []) ok_X2_makeBale rfl q_cn ?_
      obtain ⟨r12, hr12, hf⟩ := q_bd hf
      refine q_kV (M2 := m_X1_add) (As := [.int (r9.2.1 8), .int x2, .int x3]) (b := 458) (v2 := some (.int r12.1)) ok_X2_makeBale ok_X1_add cv_X1_add (ct_X1_add_458 (d := 1) (Nat.le_refl _) hr12) rfl rfl (Or.inl rfl) rfl rfl rfl rfl (Nat.le_trans (Nat.le_of_ble_eq_true rfl) hd) (Nat.le_of_ble_eq_true rfl) (Nat.le_of_ble_eq_true rfl) (Nat.le_of_ble_eq_true rfl) (fun x hx => absurd hx List.not_mem_nil) (q_nmL0 _) (q_nmS0 _) rfl (pos' := 20) (st' := [.int r12.1]) (lI' := [(457, r9.2.1), (459, r12.2.1), (460, r12.2.2.1), (461, r12.2.2.2.1), (462, r12.2.2.2.2.1), (463, r12.2.2.2.2.2.1), (464, r12.2.2.2.2.2.2), (465, r9.2.2.2.2.2.1), (466, r9.2.2.2.2.2.2.1), (467, r9.2.2.2.2.2.2.2.1), (468, r9.2.2.2.2.2.2.2.2.1), (469, r9.2.2.2.2.2.2.2.2.2.1), (471, r9.2.2.2.2.2.2.2.2.2.2.1), (472, r9.2.2.2.2.2.2.2.2.2.2.2)]) (lE' := []) rfl rfl rfl rfl ?_
      refine q_blf 3 [] (a := q_kc (t, r, m, 499, 529, ext, rx, L) I E 26 [some (.ref 457), some (.int x1), some (.int x2), some (.int x3), some (.int r12.1)] [] [(457, r9.2.1), (459, r12.2.1), (460, r12.2.2.1), (461, r12.2.2.2.1), (462, r12.2.2.2.2.1), (463, r12.2.2.2.2.2.1), (464, r12.2.2.2.2.2.2), (465, r9.2.2.2.2.2.1), (466, r9.2.2.2.2.2.2.1), (467, r9.2.2.2.2.2.2.2.1), (468, r9.2.2.2.2.2.2.2.2.1), (469, r9.2.2.2.2.2.2.2.2.2.1), (471, r9.2.2.2.2.2.2.2.2.2.2.1), (472, r9.2.2.2.2.2.2.2.2.2.2.2)] []) (b := q_kc (t, r, m, 499, 529, ext, rx, L) I E 24 [some (.ref 457), some (.int x1), some (.int x2), some (.int x3), some (.int r12.1)] [] [(457, r9.2.1), (459, r12.2.1), (460, r12.2.2.1), (461, r12.2.2.2.1), (462, r12.2.2.2.2.1), (463, r12.2.2.2.2.2.1), (464, r12.2.2.2.2.2.2), (465, r9.2.2.2.2.2.1), (466, r9.2.2.2.2.2.2.1), (467, r9.2.2.2.2.2.2.2.1), (468, r9.2.2.2.2.2.2.2.2.1), (469, r9.2.2.2.2.2.2.2.2.2.1), (471, r9.2.2.2.2.2.2.2.2.2.2.1), (472, r9.2.2.2.2.2.2.2.2.2.2.2)] []) (P := ¬ r12.1 = (-1 : Int32)) ok_X2_makeBale rfl q_cn (fun h13 => ?_) (fun h13 => ?_)
      · have hf := q_ip h13 hf
        refine q_blk 3 [] (c' := q_kc (t, r, m, 499, 529, ext, rx, L) I E 29 [some (.ref 457), some (.int x1), some (.int x2), some (.int x3), some (.int r12.1)] [.int r12.1, .int x1, .ref 457] [(457, r9.2.1), (459, r12.2.1), (460, r12.2.2.1), (461, r12.2.2.2.1), (462, r12.2.2.2.2.1), (463, r12.2.2.2.2.2.1), (464, r12.2.2.2.2.2.2), (465, r9.2.2.2.2.2.1), (466, r9.2.2.2.2.2.2.1), (467, r9.2.2.2.2.2.2.2.1), (468, r9.2.2.2.2.2.2.2.2.1), (469, r9.2.2.2.2.2.2.2.2.2.1), (471, r9.2.2.2.2.2.2.2.2.2.2.1), (472, r9.2.2.2.2.2.2.2.2.2.2.2)] []) ok_X2_makeBale rfl q_cn ?_
        obtain ⟨r14, hr14, hf⟩ := q_bd hf
        refine q_kV (M2 := m_X2_hold) (As := [.int x1, .int r12.1]) (b := 457) (v2 := none) ok_X2_makeBale ok_X2_hold cv_X2_hold (ct_X2_hold_457 (d := 1) (Nat.le_refl _) hr14) rfl rfl (Or.inl rfl) rfl rfl rfl rfl (Nat.le_trans (Nat.le_of_ble_eq_true rfl) hd) (Nat.le_of_ble_eq_true rfl) (Nat.le_of_ble_eq_true rfl) (Nat.le_of_ble_eq_true rfl) (fun x hx => absurd hx List.not_mem_nil) (q_nmL0 _) (q_nmS0 _) rfl (pos' := 30) (st' := []) (lI' := [(457, r9.2.1), (459, r12.2.1), (460, r12.2.2.1), (461, r12.2.2.2.1), (462, r12.2.2.2.2.1), (463, r12.2.2.2.2.2.1), (464, r12.2.2.2.2.2.2), (465, r9.2.2.2.2.2.1), (466, r9.2.2.2.2.2.2.1), (467, r9.2.2.2.2.2.2.2.1), (468, r9.2.2.2.2.2.2.2.2.1), (469, r9.2.2.2.2.2.2.2.2.2.1), (470, r14), (471, r9.2.2.2.2.2.2.2.2.2.2.1), (472, r9.2.2.2.2.2.2.2.2.2.2.2)]) (lE' := []) rfl rfl rfl rfl ?_
        refine q_blk 3 [] (c' := q_kc (t, r, m, 499, 529, ext, rx, L) I E 33 [some (.ref 457), some (.int x1), some (.int x2), some (.int x3), some (.int r12.1)] [.int x2, .int r12.1, .ref 457] [(457, r9.2.1), (459, r12.2.1), (460, r12.2.2.1), (461, r12.2.2.2.1), (462, r12.2.2.2.2.1), (463, r12.2.2.2.2.2.1), (464, r12.2.2.2.2.2.2), (465, r9.2.2.2.2.2.1), (466, r9.2.2.2.2.2.2.1), (467, r9.2.2.2.2.2.2.2.1), (468, r9.2.2.2.2.2.2.2.2.1), (469, r9.2.2.2.2.2.2.2.2.2.1), (470, r14), (471, r9.2.2.2.2.2.2.2.2.2.2.1), (472, r9.2.2.2.2.2.2.2.2.2.2.2)] []) ok_X2_makeBale rfl q_cn ?_
        obtain ⟨r15, hr15, hf⟩ := q_bd hf
        refine q_kV (M2 := m_X2_layInRow) (As := [.int r12.1, .int x2]) (b := 457) (v2 := none) ok_X2_makeBale ok_X2_layInRow cv_X2_layInRow (ct_X2_layInRow_457 (d := 1) (Nat.le_refl _) hr15) rfl rfl (Or.inl rfl) rfl rfl rfl rfl (Nat.le_trans (Nat.le_of_ble_eq_true rfl) hd) (Nat.le_of_ble_eq_true rfl) (Nat.le_of_ble_eq_true rfl) (Nat.le_of_ble_eq_true rfl) (fun x hx => absurd hx List.not_mem_nil) (q_nmL0 _) (q_nmS0 _) rfl (pos' := 34) (st' := []) (lI' := [(457, r15.1), (459, r12.2.1), (460, r12.2.2.1), (461, r12.2.2.2.1), (462, r12.2.2.2.2.1), (463, r12.2.2.2.2.2.1), (464, r12.2.2.2.2.2.2), (465, r9.2.2.2.2.2.1), (466, r9.2.2.2.2.2.2.1), (467, r9.2.2.2.2.2.2.2.1), (468, r9.2.2.2.2.2.2.2.2.1), (469, r9.2.2.2.2.2.2.2.2.2.1), (470, r14), (471, r15.2), (472, r9.2.2.2.2.2.2.2.2.2.2.2)]) (lE' := []) rfl rfl rfl rfl ?_
        refine q_blk 1 [] (c' := q_kc (t, r, m, 499, 529, ext, rx, L) I E 35 [some (.ref 457), some (.int x1), some (.int x2), some (.int x3), some (.int r12.1)] [.int (1 : Int32)] [(457, r15.1), (459, r12.2.1), (460, r12.2.2.1), (461, r12.2.2.2.1), (462, r12.2.2.2.2.1), (463, r12.2.2.2.2.2.1), (464, r12.2.2.2.2.2.2), (465, r9.2.2.2.2.2.1), (466, r9.2.2.2.2.2.2.1), (467, r9.2.2.2.2.2.2.2.1), (468, r9.2.2.2.2.2.2.2.2.1), (469, r9.2.2.2.2.2.2.2.2.2.1), (470, r14), (471, r15.2), (472, r9.2.2.2.2.2.2.2.2.2.2.2)] []) ok_X2_makeBale rfl q_cn ?_
        cases hf
        exact q_kri ok_X2_makeBale rfl rfl rfl (Nat.le_of_ble_eq_true rfl) (Nat.le_of_ble_eq_true rfl) ⟨rfl, q_hpe (q_fin [457, 459, 460, 461, 462, 463, 464, 465, 466, 467, 468, 469, 470, 471, 472] rfl) (q_fin [] rfl)⟩
      · have hf := q_in h13 hf
        refine q_blk 1 [] (c' := q_kc (t, r, m, 499, 529, ext, rx, L) I E 25 [some (.ref 457), some (.int x1), some (.int x2), some (.int x3), some (.int r12.1)] [.int (0 : Int32)] [(457, r9.2.1), (459, r12.2.1), (460, r12.2.2.1), (461, r12.2.2.2.1), (462, r12.2.2.2.2.1), (463, r12.2.2.2.2.2.1), (464, r12.2.2.2.2.2.2), (465, r9.2.2.2.2.2.1), (466, r9.2.2.2.2.2.2.1), (467, r9.2.2.2.2.2.2.2.1), (468, r9.2.2.2.2.2.2.2.2.1), (469, r9.2.2.2.2.2.2.2.2.2.1), (471, r9.2.2.2.2.2.2.2.2.2.2.1), (472, r9.2.2.2.2.2.2.2.2.2.2.2)] []) ok_X2_makeBale rfl q_cn ?_
        cases hf
        exact q_kri ok_X2_makeBale rfl rfl rfl (Nat.le_of_ble_eq_true rfl) (Nat.le_of_ble_eq_true rfl) ⟨rfl, q_hpe (q_fin [457, 459, 460, 461, 462, 463, 464, 465, 466, 467, 468, 469, 470, 471, 472] rfl) (q_fin [] rfl)⟩
    · have hf := q_in h11 hf
      refine q_blk 1 [] (c' := q_kc (t, r, m, 499, 529, ext, rx, L) I E 12 [some (.ref 457), some (.int x1), some (.int x2), some (.int x3), none] [.int (0 : Int32)] [(457, r9.2.1), (459, r9.2.2.1), (460, r9.2.2.2.1), (462, r9.2.2.2.2.1), (465, r9.2.2.2.2.2.1), (466, r9.2.2.2.2.2.2.1), (467, r9.2.2.2.2.2.2.2.1), (468, r9.2.2.2.2.2.2.2.2.1), (469, r9.2.2.2.2.2.2.2.2.2.1), (471, r9.2.2.2.2.2.2.2.2.2.2.1), (472, r9.2.2.2.2.2.2.2.2.2.2.2)] []) ok_X2_makeBale rfl q_cn ?_
      cases hf
      exact q_kri ok_X2_makeBale rfl rfl rfl (Nat.le_of_ble_eq_true rfl) (Nat.le_of_ble_eq_true rfl) ⟨rfl, q_hpe (q_fin [457, 459, 460, 461, 462, 463, 464, 465, 466, 467, 468, 469, 470, 471, 472] rfl) (q_fin [] rfl)⟩
set_option maxHeartbeats 4000000 in
theorem ct_X12_make_400 {g : q_G} {t : Nat} {r : Nat} {m : Nat} {ext : Nat → q_Sh} {rx : Nat → Nat → Option Nat} {L : Nat → Nat → Int64} {d : Nat} (hd : 7 ≤ d)  {I : Nat → Nat → Int32} {E : Nat → Nat → Option Nat} {x1 : Int32} {x2 : Int32} {x3 : Int32} {r0 : (Int32 ⊕ String) × (Nat → Int32) × (Nat → Int32) × (Nat → Int32) × (Nat → Int32) × (Nat → Int32) × (Nat → Int32) × (Nat → Int32) × (Nat → Int32) × (Nat → Int32) × (Nat → Int32) × (Nat → Int32) × (Nat → Int32) × (Nat → Int32) × (Nat → Int32) × (Nat → Int32)} (hf : f_X12_make (I 402) (I 457) (I 459) (I 460) (I 461) (I 462) (I 463) (I 464) (I 465) (I 466) (I 467) (I 468) (I 469) (I 470) (I 471) (I 472) x1 x2 x3 = some r0) : q_Ct g m_X12_make d 3 18 [471, 472] [.ref 400, .int x1, .int x2, .int x3] (q_hp (t, r, m, 499, 529, ext, rx, L) I E) (fun o h' => o = q_oI r0.1 ∧ h' = q_hp (t, r, m, 499, 529, ext, rx, L) (q_ws I [(457, r0.2.1), (459, r0.2.2.1), (460, r0.2.2.2.1), (461, r0.2.2.2.2.1), (462, r0.2.2.2.2.2.1), (463, r0.2.2.2.2.2.2.1), (464, r0.2.2.2.2.2.2.2.1), (465, r0.2.2.2.2.2.2.2.2.1), (466, r0.2.2.2.2.2.2.2.2.2.1), (467, r0.2.2.2.2.2.2.2.2.2.2.1), (468, r0.2.2.2.2.2.2.2.2.2.2.2.1), (469, r0.2.2.2.2.2.2.2.2.2.2.2.2.1), (470, r0.2.2.2.2.2.2.2.2.2.2.2.2.2.1), (471, r0.2.2.2.2.2.2.2.2.2.2.2.2.2.2.1), (472, r0.2.2.2.2.2.2.2.2.2.2.2.2.2.2.2)]) (q_ws E [])) := by
  rw [f_X12_make] at hf
  refine q_Ct_of ok_X12_make (Nat.le_of_ble_eq_true rfl) ?_ _ rfl rfl
  change q_J g m_X12_make d 3 18 _ [471, 472] _ 0 0 (q_kc (t, r, m, 499, 529, ext, rx, L) I E 0 [some (.ref 400), some (.int x1), some (.int x2), some (.int x3)] [] [] [])
  refine q_blk 2 [] (c' := q_kc (t, r, m, 499, 529, ext, rx, L) I E 2 [some (.ref 400), some (.int x1), some (.int x2), some (.int x3)] [.int x1, .ref 400] [] []) ok_X12_make rfl q_cn ?_
  obtain ⟨r1, hr1, hf⟩ := q_bd hf
  cases hv4 : r1 with
  | inl v2 =>
    have hf := q_sm0 hv4 hf
    refine q_kV (M2 := m_X12_checkHook) (As := [.int x1]) (b := 400) (v2 := none) ok_X12_make ok_X12_checkHook cv_X12_checkHook (ct_X12_checkHook_400 (d := 6) (Nat.le_refl _) hr1) (q_oVl hv4) rfl (Or.inl rfl) rfl rfl rfl rfl (Nat.le_trans (Nat.le_of_ble_eq_true rfl) hd) (Nat.le_of_ble_eq_true rfl) (Nat.le_of_ble_eq_true rfl) (Nat.le_of_ble_eq_true rfl) (fun x hx => absurd hx List.not_mem_nil) (q_nmL0 _) (q_nmS0 _) rfl (pos' := 3) (st' := []) (lI' := []) (lE' := []) rfl rfl rfl rfl ?_
    refine q_blf 2 [] (a := q_kc (t, r, m, 499, 529, ext, rx, L) I E 14 [some (.ref 400), some (.int x1), some (.int x2), some (.int x3)] [] [] []) (b := q_kc (t, r, m, 499, 529, ext, rx, L) I E 6 [some (.ref 400), some (.int x1), some (.int x2), some (.int x3)] [] [] []) (P := x2 < (1 : Int32)) ok_X12_make rfl q_cn (fun h5 => ?_) (fun h5 => ?_)
    · have hf := q_ip h5 hf
      cases hf
      exact q_o_throwS ok_X12_make rfl rfl rfl rfl rfl rfl q_inIAE (by decide +kernel) (by decide +kernel) q_fitIAE q_fits (Nat.le_trans (Nat.le_of_ble_eq_true rfl) hd) (Nat.le_of_ble_eq_true rfl) (Nat.le_of_ble_eq_true rfl) (Nat.le_of_ble_eq_true rfl) ⟨rfl, q_hpe (q_fin [457, 459, 460, 461, 462, 463, 464, 465, 466, 467, 468, 469, 470, 471, 472] rfl) (q_fin [] rfl)⟩
    · have hf := q_in h5 hf
      refine q_blf 2 [] (a := q_kc (t, r, m, 499, 529, ext, rx, L) I E 14 [some (.ref 400), some (.int x1), some (.int x2), some (.int x3)] [] [] []) (b := q_kc (t, r, m, 499, 529, ext, rx, L) I E 9 [some (.ref 400), some (.int x1), some (.int x2), some (.int x3)] [] [] []) (P := (9 : Int32) < x2) ok_X12_make rfl q_cn (fun h6 => ?_) (fun h6 => ?_)
      · have hf := q_ip h6 hf
        cases hf
        exact q_o_throwS ok_X12_make rfl rfl rfl rfl rfl rfl q_inIAE (by decide +kernel) (by decide +kernel) q_fitIAE q_fits (Nat.le_trans (Nat.le_of_ble_eq_true rfl) hd) (Nat.le_of_ble_eq_true rfl) (Nat.le_of_ble_eq_true rfl) (Nat.le_of_ble_eq_true rfl) ⟨rfl, q_hpe (q_fin [457, 459, 460, 461, 462, 463, 464, 465, 466, 467, 468, 469, 470, 471, 472] rfl) (q_fin [] rfl)⟩
      · have hf := q_in h6 hf
        refine q_blf 1 [] (a := q_kc (t, r, m, 499, 529, ext, rx, L) I E 14 [some (.ref 400), some (.int x1), some (.int x2), some (.int x3)] [] [] []) (b := q_kc (t, r, m, 499, 529, ext, rx, L) I E 11 [some (.ref 400), some (.int x1), some (.int x2), some (.int x3)] [] [] []) (P := x3 < 0) ok_X12_make rfl q_cn (fun h7 => ?_) (fun h7 => ?_)
        · have hf := q_ip h7 hf
          cases hf
          exact q_o_throwS ok_X12_make rfl rfl rfl rfl rfl rfl q_inIAE (by decide +kernel) (by decide +kernel) q_fitIAE q_fits (Nat.le_trans (Nat.le_of_ble_eq_true rfl) hd) (Nat.le_of_ble_eq_true rfl) (Nat.le_of_ble_eq_true rfl) (Nat.le_of_ble_eq_true rfl) ⟨rfl, q_hpe (q_fin [457, 459, 460, 461, 462, 463, 464, 465, 466, 467, 468, 469, 470, 471, 472] rfl) (q_fin [] rfl)⟩
        · have hf := q_in h7 hf
          refine q_blf 2 [] (a := q_kc (t, r, m, 499, 529, ext, rx, L) I E 19 [some (.ref 400), some (.int x1), some (.int x2), some (.int x3)] [] [] []) (b := q_kc (t, r, m, 499, 529, ext, rx, L) I E 14 [some (.ref 400), some (.int x1), some (.int x2), some (.int x3)] [] [] []) (P := x3 ≤ (3 : Int32)) ok_X12_make rfl q_cn (fun h8 => ?_) (fun h8 => ?_)
          · have hf := q_ip h8 hf
            refine q_blk 5 [] (c' := q_kc (t, r, m, 499, 529, ext, rx, L) I E 24 [some (.ref 400), some (.int x1), some (.int x2), some (.int x3)] [.int x3, .int x2, .int x1, .ref 457] [] []) ok_X12_make rfl q_cn ?_
            refine q_less (ls' := [some (.ref 400), some (.int x1), none, none]) (q_sb2 (q_sb2 (q_sb1 (q_sb1 q_sb0)))) ?_
            obtain ⟨r9, hr9, hf⟩ := q_bd hf
            refine q_kV (M2 := m_X2_makeBale) (As := [.int x1, .int x2, .int x3]) (b := 457) (v2 := some (.int (q_bz r9.1))) ok_X12_make ok_X2_makeBale cv_X2_makeBale (ct_X2_makeBale_457 (d := 4) (Nat.le_refl _) hr9) rfl rfl (Or.inl rfl) rfl rfl rfl rfl (Nat.le_trans (Nat.le_of_ble_eq_true rfl) hd) (Nat.le_of_ble_eq_true rfl) (Nat.le_of_ble_eq_true rfl) (Nat.le_of_ble_eq_true rfl) (fun x hx => hx) rfl rfl rfl (pos' := 25) (st' := [.int (q_bz r9.1)]) (lI' := [(457, r9.2.1), (459, r9.2.2.1), (460, r9.2.2.2.1), (461, r9.2.2.2.2.1), (462, r9.2.2.2.2.2.1), (463, r9.2.2.2.2.2.2.1), (464, r9.2.2.2.2.2.2.2.1), (465, r9.2.2.2.2.2.2.2.2.1), (466, r9.2.2.2.2.2.2.2.2.2.1), (467, r9.2.2.2.2.2.2.2.2.2.2.1), (468, r9.2.2.2.2.2.2.2.2.2.2.2.1), (469, r9.2.2.2.2.2.2.2.2.2.2.2.2.1), (470, r9.2.2.2.2.2.2.2.2.2.2.2.2.2.1), (471, r9.2.2.2.2.2.2.2.2.2.2.2.2.2.2.1), (472, r9.2.2.2.2.2.2.2.2.2.2.2.2.2.2.2)]) (lE' := []) rfl rfl rfl rfl ?_
            refine q_blf 0 [] (a := q_kc (t, r, m, 499, 529, ext, rx, L) I E 31 [some (.ref 400), some (.int x1), none, none] [] [(457, r9.2.1), (459, r9.2.2.1), (460, r9.2.2.2.1), (461, r9.2.2.2.2.1), (462, r9.2.2.2.2.2.1), (463, r9.2.2.2.2.2.2.1), (464, r9.2.2.2.2.2.2.2.1), (465, r9.2.2.2.2.2.2.2.2.1), (466, r9.2.2.2.2.2.2.2.2.2.1), (467, r9.2.2.2.2.2.2.2.2.2.2.1), (468, r9.2.2.2.2.2.2.2.2.2.2.2.1), (469, r9.2.2.2.2.2.2.2.2.2.2.2.2.1), (470, r9.2.2.2.2.2.2.2.2.2.2.2.2.2.1), (471, r9.2.2.2.2.2.2.2.2.2.2.2.2.2.2.1), (472, r9.2.2.2.2.2.2.2.2.2.2.2.2.2.2.2)] []) (b := q_kc (t, r, m, 499, 529, ext, rx, L) I E 26 [some (.ref 400), some (.int x1), none, none] [] [(457, r9.2.1), (459, r9.2.2.1), (460, r9.2.2.2.1), (461, r9.2.2.2.2.1), (462, r9.2.2.2.2.2.1), (463, r9.2.2.2.2.2.2.1), (464, r9.2.2.2.2.2.2.2.1), (465, r9.2.2.2.2.2.2.2.2.1), (466, r9.2.2.2.2.2.2.2.2.2.1), (467, r9.2.2.2.2.2.2.2.2.2.2.1), (468, r9.2.2.2.2.2.2.2.2.2.2.2.1), (469, r9.2.2.2.2.2.2.2.2.2.2.2.2.1), (470, r9.2.2.2.2.2.2.2.2.2.2.2.2.2.1), (471, r9.2.2.2.2.2.2.2.2.2.2.2.2.2.2.1), (472, r9.2.2.2.2.2.2.2.2.2.2.2.2.2.2.2)] []) (P := ¬ (q_bz r9.1) = 0) ok_X12_make rfl q_cn (fun h10 => ?_) (fun h10 => ?_)
            · have hf := q_ip h10 hf
              refine q_blk 6 [] (c' := q_kc (t, r, m, 499, 529, ext, rx, L) I E 37 [some (.ref 400), some (.int x1), none, none] [.int x1, .ref 457, .ref 458] [(457, r9.2.1), (459, r9.2.2.1), (460, r9.2.2.2.1), (461, r9.2.2.2.2.1), (462, r9.2.2.2.2.2.1), (463, r9.2.2.2.2.2.2.1), (464, r9.2.2.2.2.2.2.2.1), (465, r9.2.2.2.2.2.2.2.2.1), (466, r9.2.2.2.2.2.2.2.2.2.1), (467, r9.2.2.2.2.2.2.2.2.2.2.1), (468, r9.2.2.2.2.2.2.2.2.2.2.2.1), (469, r9.2.2.2.2.2.2.2.2.2.2.2.2.1), (470, r9.2.2.2.2.2.2.2.2.2.2.2.2.2.1), (471, r9.2.2.2.2.2.2.2.2.2.2.2.2.2.2.1), (472, r9.2.2.2.2.2.2.2.2.2.2.2.2.2.2.2)] []) ok_X12_make rfl q_cn ?_
              obtain ⟨r11, hr11, hf⟩ := q_bd hf
              refine q_kV (M2 := m_X2_held) (As := [.int x1]) (b := 457) (v2 := some (.int r11)) ok_X12_make ok_X2_held cv_X2_held (ct_X2_held_457 (d := 1) (Nat.le_refl _) hr11) rfl rfl (Or.inl rfl) rfl rfl rfl rfl (Nat.le_trans (Nat.le_of_ble_eq_true rfl) hd) (Nat.le_of_ble_eq_true rfl) (Nat.le_of_ble_eq_true rfl) (Nat.le_of_ble_eq_true rfl) (fun x hx => absurd hx List.not_mem_nil) (q_nmL0 _) (q_nmS0 _) rfl (pos' := 38) (st' := [.int r11, .ref 458]) (lI' := [(457, r9.2.1), (459, r9.2.2.1), (460, r9.2.2.2.1), (461, r9.2.2.2.2.1), (462, r9.2.2.2.2.2.1), (463, r9.2.2.2.2.2.2.1), (464, r9.2.2.2.2.2.2.2.1), (465, r9.2.2.2.2.2.2.2.2.1), (466, r9.2.2.2.2.2.2.2.2.2.1), (467, r9.2.2.2.2.2.2.2.2.2.2.1), (468, r9.2.2.2.2.2.2.2.2.2.2.2.1), (469, r9.2.2.2.2.2.2.2.2.2.2.2.2.1), (470, r9.2.2.2.2.2.2.2.2.2.2.2.2.2.1), (471, r9.2.2.2.2.2.2.2.2.2.2.2.2.2.2.1), (472, r9.2.2.2.2.2.2.2.2.2.2.2.2.2.2.2)]) (lE' := []) rfl rfl rfl rfl ?_
              obtain ⟨r12, hr12, hf⟩ := q_bd hf
              refine q_kV (M2 := m_X1_place) (As := [.int r11]) (b := 458) (v2 := some (.int r12)) ok_X12_make ok_X1_place cv_X1_place (ct_X1_place_458 (d := 1) (Nat.le_refl _) hr12) rfl rfl (Or.inl rfl) rfl rfl rfl rfl (Nat.le_trans (Nat.le_of_ble_eq_true rfl) hd) (Nat.le_of_ble_eq_true rfl) (Nat.le_of_ble_eq_true rfl) (Nat.le_of_ble_eq_true rfl) (fun x hx => absurd hx List.not_mem_nil) (q_nmL0 _) (q_nmS0 _) rfl (pos' := 39) (st' := [.int r12]) (lI' := [(457, r9.2.1), (459, r9.2.2.1), (460, r9.2.2.2.1), (461, r9.2.2.2.2.1), (462, r9.2.2.2.2.2.1), (463, r9.2.2.2.2.2.2.1), (464, r9.2.2.2.2.2.2.2.1), (465, r9.2.2.2.2.2.2.2.2.1), (466, r9.2.2.2.2.2.2.2.2.2.1), (467, r9.2.2.2.2.2.2.2.2.2.2.1), (468, r9.2.2.2.2.2.2.2.2.2.2.2.1), (469, r9.2.2.2.2.2.2.2.2.2.2.2.2.1), (470, r9.2.2.2.2.2.2.2.2.2.2.2.2.2.1), (471, r9.2.2.2.2.2.2.2.2.2.2.2.2.2.2.1), (472, r9.2.2.2.2.2.2.2.2.2.2.2.2.2.2.2)]) (lE' := []) rfl rfl rfl rfl ?_
              cases hf
              exact q_kri ok_X12_make rfl rfl rfl (Nat.le_of_ble_eq_true rfl) (Nat.le_of_ble_eq_true rfl) ⟨rfl, q_hpe (q_fin [457, 459, 460, 461, 462, 463, 464, 465, 466, 467, 468, 469, 470, 471, 472] rfl) (q_fin [] rfl)⟩
            · have hf := q_in h10 hf
              cases hf
              exact q_o_throwS ok_X12_make rfl rfl rfl rfl rfl rfl q_inISE (by decide +kernel) (by decide +kernel) q_fitISE q_fits (Nat.le_trans (Nat.le_of_ble_eq_true rfl) hd) (Nat.le_of_ble_eq_true rfl) (Nat.le_of_ble_eq_true rfl) (Nat.le_of_ble_eq_true rfl) ⟨rfl, q_hpe (q_fin [457, 459, 460, 461, 462, 463, 464, 465, 466, 467, 468, 469, 470, 471, 472] rfl) (q_fin [] rfl)⟩
          · have hf := q_in h8 hf
            cases hf
            exact q_o_throwS ok_X12_make rfl rfl rfl rfl rfl rfl q_inIAE (by decide +kernel) (by decide +kernel) q_fitIAE q_fits (Nat.le_trans (Nat.le_of_ble_eq_true rfl) hd) (Nat.le_of_ble_eq_true rfl) (Nat.le_of_ble_eq_true rfl) (Nat.le_of_ble_eq_true rfl) ⟨rfl, q_hpe (q_fin [457, 459, 460, 461, 462, 463, 464, 465, 466, 467, 468, 469, 470, 471, 472] rfl) (q_fin [] rfl)⟩
  | inr e3 =>
    have hf := q_sm1 hv4 hf
    cases hf
    refine q_kVx (M2 := m_X12_checkHook) (As := [.int x1]) (b := 400) ok_X12_make ok_X12_checkHook cv_X12_checkHook (ct_X12_checkHook_400 (d := 6) (Nat.le_refl _) hr1) (q_oVr hv4) rfl (Or.inl rfl) rfl rfl rfl rfl (Nat.le_trans (Nat.le_of_ble_eq_true rfl) hd) (Nat.le_of_ble_eq_true rfl) (Nat.le_of_ble_eq_true rfl) (Nat.le_of_ble_eq_true rfl) (fun x hx => absurd hx List.not_mem_nil) (q_nmL0 _) (q_nmS0 _) rfl (lI' := []) (lE' := []) rfl rfl ⟨rfl, q_hpe (q_fin [457, 459, 460, 461, 462, 463, 464, 465, 466, 467, 468, 469, 470, 471, 472] rfl) (q_fin [] rfl)⟩
set_option maxHeartbeats 4000000 in
theorem ct_X1_setLead_458 {g : q_G} {t : Nat} {r : Nat} {m : Nat} {z : Nat} {N : Nat} {ext : Nat → q_Sh} {rx : Nat → Nat → Option Nat} {L : Nat → Nat → Int64} {d : Nat} (hd : 2 ≤ d)  {I : Nat → Nat → Int32} {E : Nat → Nat → Option Nat} {x1 : Int32} {x2 : Int32} {x3 : Int32} {r0 : (Nat → Int32)} (hf : f_X1_setLead (I 463) (I 464) x1 x2 x3 = some r0) : q_Ct g m_X1_setLead d 0 0 [] [.ref 458, .int x1, .int x2, .int x3] (q_hp (t, r, m, z, N, ext, rx, L) I E) (fun o h' => o = .inl none ∧ h' = q_hp (t, r, m, z, N, ext, rx, L) (q_ws I [(464, r0)]) (q_ws E [])) := by
  rw [f_X1_setLead] at hf
  refine q_Ct_of ok_X1_setLead (Nat.le_of_ble_eq_true rfl) ?_ _ rfl rfl
  change q_J g m_X1_setLead d 0 0 _ [] _ 0 0 (q_kc (t, r, m, z, N, ext, rx, L) I E 0 [some (.ref 458), some (.int x1), some (.int x2), some (.int x3)] [] [] [])
  refine q_blk 3 [] (c' := q_kc (t, r, m, z, N, ext, rx, L) I E 3 [some (.ref 458), some (.int x1), some (.int x2), some (.int x3)] [.int x2, .int x1, .ref 458] [] []) ok_X1_setLead rfl q_cn ?_
  obtain ⟨r1, hr1, hf⟩ := q_bd hf
  refine q_kV (M2 := m_X1_hasRope) (As := [.int x1, .int x2]) (b := 458) (v2 := some (.int (q_bz r1))) ok_X1_setLead ok_X1_hasRope cv_X1_hasRope (ct_X1_hasRope_458 (d := 1) (Nat.le_refl _) hr1) rfl rfl (Or.inl rfl) rfl rfl rfl rfl (Nat.le_trans (Nat.le_of_ble_eq_true rfl) hd) (Nat.le_of_ble_eq_true rfl) (Nat.le_of_ble_eq_true rfl) (Nat.le_of_ble_eq_true rfl) (fun x hx => absurd hx List.not_mem_nil) (q_nmL0 _) (q_nmS0 _) rfl (pos' := 4) (st' := [.int (q_bz r1)]) (lI' := []) (lE' := []) rfl rfl rfl rfl ?_
  refine q_blf 0 [] (a := q_kc (t, r, m, z, N, ext, rx, L) I E 14 [some (.ref 458), some (.int x1), some (.int x2), some (.int x3)] [] [] []) (b := q_kc (t, r, m, z, N, ext, rx, L) I E 5 [some (.ref 458), some (.int x1), some (.int x2), some (.int x3)] [] [] []) (P := (q_bz r1) = 0) ok_X1_setLead rfl q_cn (fun h2 => ?_) (fun h2 => ?_)
  · have hf := q_ip h2 hf
    cases hf
    exact q_krv ok_X1_setLead rfl rfl (Nat.le_of_ble_eq_true rfl) (Nat.le_of_ble_eq_true rfl) ⟨rfl, q_hpe (q_fin [464] rfl) (q_fin [] rfl)⟩
  · have hf := q_in h2 hf
    obtain ⟨j3, hj3, hf⟩ := q_bd hf
    refine q_blk 9 [j3] (c' := q_kc (t, r, m, z, N, ext, rx, L) I E 14 [some (.ref 458), some (.int x1), some (.int x2), some (.int x3)] [] [(464, (q_up (I 464) j3 x3))] []) ok_X1_setLead rfl (q_cc hj3 q_cn) ?_
    cases hf
    exact q_krv ok_X1_setLead rfl rfl (Nat.le_of_ble_eq_true rfl) (Nat.le_of_ble_eq_true rfl) ⟨rfl, q_hpe (q_fin [464] rfl) (q_fin [] rfl)⟩
set_option maxHeartbeats 4000000 in
theorem ct_X2_tieRope_457 {g : q_G} {t : Nat} {r : Nat} {m : Nat} {z : Nat} {N : Nat} {ext : Nat → q_Sh} {rx : Nat → Nat → Option Nat} {L : Nat → Nat → Int64} {d : Nat} (hd : 3 ≤ d)  {I : Nat → Nat → Int32} {E : Nat → Nat → Option Nat} {x1 : Int32} {x2 : Int32} {x3 : Int32} {r0 : Bool × (Nat → Int32)} (hf : f_X2_tieRope (I 463) (I 464) (I 470) x1 x2 x3 = some r0) : q_Ct g m_X2_tieRope d 0 0 [] [.ref 457, .int x1, .int x2, .int x3] (q_hp (t, r, m, z, N, ext, rx, L) I E) (fun o h' => o = .inl (some (.int (q_bz r0.1))) ∧ h' = q_hp (t, r, m, z, N, ext, rx, L) (q_ws I [(464, r0.2)]) (q_ws E [])) := by
  rw [f_X2_tieRope] at hf
  refine q_Ct_of ok_X2_tieRope (Nat.le_of_ble_eq_true rfl) ?_ _ rfl rfl
  change q_J g m_X2_tieRope d 0 0 _ [] _ 0 0 (q_kc (t, r, m, z, N, ext, rx, L) I E 0 [some (.ref 457), some (.int x1), some (.int x2), some (.int x3), none] [] [] [])
  refine q_blk 2 [] (c' := q_kc (t, r, m, z, N, ext, rx, L) I E 2 [some (.ref 457), some (.int x1), some (.int x2), some (.int x3), none] [.int x1, .ref 457] [] []) ok_X2_tieRope rfl q_cn ?_
  obtain ⟨r1, hr1, hf⟩ := q_bd hf
  refine q_kV (M2 := m_X2_held) (As := [.int x1]) (b := 457) (v2 := some (.int r1)) ok_X2_tieRope ok_X2_held cv_X2_held (ct_X2_held_457 (d := 1) (Nat.le_refl _) hr1) rfl rfl (Or.inl rfl) rfl rfl rfl rfl (Nat.le_trans (Nat.le_of_ble_eq_true rfl) hd) (Nat.le_of_ble_eq_true rfl) (Nat.le_of_ble_eq_true rfl) (Nat.le_of_ble_eq_true rfl) (fun x hx => absurd hx List.not_mem_nil) (q_nmL0 _) (q_nmS0 _) rfl (pos' := 3) (st' := [.int r1]) (lI' := []) (lE' := []) rfl rfl rfl rfl ?_
  refine q_blk 3 [] (c' := q_kc (t, r, m, z, N, ext, rx, L) I E 6 [some (.ref 457), some (.int x1), some (.int x2), some (.int x3), some (.int r1)] [.int x3, .ref 457] [] []) ok_X2_tieRope rfl q_cn ?_
  obtain ⟨r2, hr2, hf⟩ := q_bd hf
  refine q_kV (M2 := m_X2_held) (As := [.int x3]) (b := 457) (v2 := some (.int r2)) ok_X2_tieRope ok_X2_held cv_X2_held (ct_X2_held_457 (d := 1) (Nat.le_refl _) hr2) rfl rfl (Or.inl rfl) rfl rfl rfl rfl (Nat.le_trans (Nat.le_of_ble_eq_true rfl) hd) (Nat.le_of_ble_eq_true rfl) (Nat.le_of_ble_eq_true rfl) (Nat.le_of_ble_eq_true rfl) (fun x hx => absurd hx List.not_mem_nil) (q_nmL0 _) (q_nmS0 _) rfl (pos' := 7) (st' := [.int r2]) (lI' := []) (lE' := []) rfl rfl rfl rfl ?_
  refine q_blf 1 [] (a := q_kc (t, r, m, z, N, ext, rx, L) I E 15 [some (.ref 457), some (.int x1), some (.int x2), some (.int x3), some (.int r1)] [] [] []) (b := q_kc (t, r, m, z, N, ext, rx, L) I E 9 [some (.ref 457), some (.int x1), some (.int x2), some (.int x3), some (.int r1)] [] [] []) (P := r2 = (-1 : Int32)) ok_X2_tieRope rfl q_cn (fun h3 => ?_) (fun h3 => ?_)
  · have hf := q_ip h3 hf
    refine q_blk 1 [] (c' := q_kc (t, r, m, z, N, ext, rx, L) I E 16 [some (.ref 457), some (.int x1), some (.int x2), some (.int x3), some (.int r1)] [.int (0 : Int32)] [] []) ok_X2_tieRope rfl q_cn ?_
    cases hf
    exact q_kri ok_X2_tieRope rfl rfl rfl (Nat.le_of_ble_eq_true rfl) (Nat.le_of_ble_eq_true rfl) ⟨rfl, q_hpe (q_fin [464] rfl) (q_fin [] rfl)⟩
  · have hf := q_in h3 hf
    refine q_blk 4 [] (c' := q_kc (t, r, m, z, N, ext, rx, L) I E 13 [some (.ref 457), some (.int x1), some (.int x2), some (.int x3), some (.int r1)] [.int x2, .int r1, .ref 458] [] []) ok_X2_tieRope rfl q_cn ?_
    obtain ⟨r4, hr4, hf⟩ := q_bd hf
    refine q_kV (M2 := m_X1_hasRope) (As := [.int r1, .int x2]) (b := 458) (v2 := some (.int (q_bz r4))) ok_X2_tieRope ok_X1_hasRope cv_X1_hasRope (ct_X1_hasRope_458 (d := 1) (Nat.le_refl _) hr4) rfl rfl (Or.inl rfl) rfl rfl rfl rfl (Nat.le_trans (Nat.le_of_ble_eq_true rfl) hd) (Nat.le_of_ble_eq_true rfl) (Nat.le_of_ble_eq_true rfl) (Nat.le_of_ble_eq_true rfl) (fun x hx => absurd hx List.not_mem_nil) (q_nmL0 _) (q_nmS0 _) rfl (pos' := 14) (st' := [.int (q_bz r4)]) (lI' := []) (lE' := []) rfl rfl rfl rfl ?_
    refine q_blf 0 [] (a := q_kc (t, r, m, z, N, ext, rx, L) I E 17 [some (.ref 457), some (.int x1), some (.int x2), some (.int x3), some (.int r1)] [] [] []) (b := q_kc (t, r, m, z, N, ext, rx, L) I E 15 [some (.ref 457), some (.int x1), some (.int x2), some (.int x3), some (.int r1)] [] [] []) (P := ¬ (q_bz r4) = 0) ok_X2_tieRope rfl q_cn (fun h5 => ?_) (fun h5 => ?_)
    · have hf := q_ip h5 hf
      refine q_blk 6 [] (c' := q_kc (t, r, m, z, N, ext, rx, L) I E 23 [some (.ref 457), some (.int x1), some (.int x2), some (.int x3), some (.int r1)] [.int x3, .ref 457, .int x2, .int r1, .ref 458] [] []) ok_X2_tieRope rfl q_cn ?_
      obtain ⟨r6, hr6, hf⟩ := q_bd hf
      refine q_kV (M2 := m_X2_held) (As := [.int x3]) (b := 457) (v2 := some (.int r6)) ok_X2_tieRope ok_X2_held cv_X2_held (ct_X2_held_457 (d := 1) (Nat.le_refl _) hr6) rfl rfl (Or.inl rfl) rfl rfl rfl rfl (Nat.le_trans (Nat.le_of_ble_eq_true rfl) hd) (Nat.le_of_ble_eq_true rfl) (Nat.le_of_ble_eq_true rfl) (Nat.le_of_ble_eq_true rfl) (fun x hx => absurd hx List.not_mem_nil) (q_nmL0 _) (q_nmS0 _) rfl (pos' := 24) (st' := [.int r6, .int x2, .int r1, .ref 458]) (lI' := []) (lE' := []) rfl rfl rfl rfl ?_
      obtain ⟨r7, hr7, hf⟩ := q_bd hf
      refine q_kV (M2 := m_X1_setLead) (As := [.int r1, .int x2, .int r6]) (b := 458) (v2 := none) ok_X2_tieRope ok_X1_setLead cv_X1_setLead (ct_X1_setLead_458 (d := 2) (Nat.le_refl _) hr7) rfl rfl (Or.inl rfl) rfl rfl rfl rfl (Nat.le_trans (Nat.le_of_ble_eq_true rfl) hd) (Nat.le_of_ble_eq_true rfl) (Nat.le_of_ble_eq_true rfl) (Nat.le_of_ble_eq_true rfl) (fun x hx => absurd hx List.not_mem_nil) (q_nmL0 _) (q_nmS0 _) rfl (pos' := 25) (st' := []) (lI' := [(464, r7)]) (lE' := []) rfl rfl rfl rfl ?_
      refine q_blk 1 [] (c' := q_kc (t, r, m, z, N, ext, rx, L) I E 26 [some (.ref 457), some (.int x1), some (.int x2), some (.int x3), some (.int r1)] [.int (1 : Int32)] [(464, r7)] []) ok_X2_tieRope rfl q_cn ?_
      cases hf
      exact q_kri ok_X2_tieRope rfl rfl rfl (Nat.le_of_ble_eq_true rfl) (Nat.le_of_ble_eq_true rfl) ⟨rfl, q_hpe (q_fin [464] rfl) (q_fin [] rfl)⟩
    · have hf := q_in h5 hf
      refine q_blk 1 [] (c' := q_kc (t, r, m, z, N, ext, rx, L) I E 16 [some (.ref 457), some (.int x1), some (.int x2), some (.int x3), some (.int r1)] [.int (0 : Int32)] [] []) ok_X2_tieRope rfl q_cn ?_
      cases hf
      exact q_kri ok_X2_tieRope rfl rfl rfl (Nat.le_of_ble_eq_true rfl) (Nat.le_of_ble_eq_true rfl) ⟨rfl, q_hpe (q_fin [464] rfl) (q_fin [] rfl)⟩
set_option maxHeartbeats 4000000 in
theorem lp_X1_leadCount_L4_458 {g : q_G} {d mc ms : Nat} {h0 : q_H} {Q : (Option Value ⊕ String) → q_H → Prop} {k n : Nat} {t : Nat} {r : Nat} {m : Nat} {z : Nat} {N : Nat} {ext : Nat → q_Sh} {rx : Nat → Nat → Option Nat} {L : Nat → Nat → Int64} (hd : 3 ≤ d) (hk : k ≤ mc) (hn : n ≤ ms)  {v1 : Int32} : ∀ (fu : Nat) {I : Nat → Nat → Int32} {E : Nat → Nat → Option Nat} {v2 : Int32} {v3 : Int32} {r0 : Int32} (hf : f_X1_leadCount_L4 (I 463) (I 464) v1 fu v2 v3 = some r0) (hK0 : q_J g m_X1_leadCount d mc ms h0 [] Q k n (q_kc (t, r, m, z, N, ext, rx, L) I E 18 [none, none, some (.int r0), none] [] [] [])), q_J g m_X1_leadCount d mc ms h0 [] Q k n (4, [some (.ref 458), some (.int v1), some (.int v2), some (.int v3)], [], q_hp (t, r, m, z, N, ext, rx, L) I E) := by
  intro fu
  induction fu with
  | zero =>
    intro I E v2 v3 r0 hf hK0
    rw [f_X1_leadCount_L4] at hf
    cases hf
  | succ fu ih =>
    intro I E v2 v3 r0 hf hK0
    rw [f_X1_leadCount_L4] at hf
    change q_J g m_X1_leadCount d mc ms h0 [] Q k n (q_kc (t, r, m, z, N, ext, rx, L) I E 4 [some (.ref 458), some (.int v1), some (.int v2), some (.int v3)] [] [] [])
    refine q_blk 3 [] (c' := q_kc (t, r, m, z, N, ext, rx, L) I E 7 [some (.ref 458), some (.int v1), some (.int v2), some (.int v3)] [.int v1, .ref 458, .int v3] [] []) ok_X1_leadCount rfl q_cn ?_
    obtain ⟨r1, hr1, hf⟩ := q_bd hf
    refine q_kV (M2 := m_X1_ropes) (As := [.int v1]) (b := 458) (v2 := some (.int r1)) ok_X1_leadCount ok_X1_ropes cv_X1_ropes (ct_X1_ropes_458 (d := 1) (Nat.le_refl _) hr1) rfl rfl (Or.inl rfl) rfl rfl rfl rfl (Nat.le_trans (Nat.le_of_ble_eq_true rfl) hd) hk hn (Nat.le_of_ble_eq_true rfl) (fun x hx => absurd hx List.not_mem_nil) (q_nmL0 _) (q_nmS0 _) rfl (pos' := 8) (st' := [.int r1, .int v3]) (lI' := []) (lE' := []) rfl rfl rfl rfl ?_
    refine q_blf 0 [] (a := q_kc (t, r, m, z, N, ext, rx, L) I E 18 [some (.ref 458), some (.int v1), some (.int v2), some (.int v3)] [] [] []) (b := q_kc (t, r, m, z, N, ext, rx, L) I E 9 [some (.ref 458), some (.int v1), some (.int v2), some (.int v3)] [] [] []) (P := r1 ≤ v3) ok_X1_leadCount rfl q_cn (fun h2 => ?_) (fun h2 => ?_)
    · have hf := q_ip h2 hf
      refine q_less (ls' := [none, none, some (.int v2), none]) (q_sb1 (q_sb1 (q_sb2 (q_sb1 q_sb0)))) ?_
      cases hf
      exact q_Jpad [] [] rfl rfl hK0
    · have hf := q_in h2 hf
      refine q_blk 3 [] (c' := q_kc (t, r, m, z, N, ext, rx, L) I E 12 [some (.ref 458), some (.int v1), some (.int v2), some (.int v3)] [.int v3, .int v1, .ref 458] [] []) ok_X1_leadCount rfl q_cn ?_
      obtain ⟨r3, hr3, hf⟩ := q_bd hf
      refine q_kV (M2 := m_X1_lead) (As := [.int v1, .int v3]) (b := 458) (v2 := some (.int r3)) ok_X1_leadCount ok_X1_lead cv_X1_lead (ct_X1_lead_458 (d := 2) (Nat.le_refl _) hr3) rfl rfl (Or.inl rfl) rfl rfl rfl rfl (Nat.le_trans (Nat.le_of_ble_eq_true rfl) hd) hk hn (Nat.le_of_ble_eq_true rfl) (fun x hx => absurd hx List.not_mem_nil) (q_nmL0 _) (q_nmS0 _) rfl (pos' := 13) (st' := [.int r3]) (lI' := []) (lE' := []) rfl rfl rfl rfl ?_
      refine q_blf 1 [] (a := q_kc (t, r, m, z, N, ext, rx, L) I E 16 [some (.ref 458), some (.int v1), some (.int v2), some (.int v3)] [] [] []) (b := q_kc (t, r, m, z, N, ext, rx, L) I E 15 [some (.ref 458), some (.int v1), some (.int v2), some (.int v3)] [] [] []) (P := r3 = (-1 : Int32)) ok_X1_leadCount rfl q_cn (fun h4 => ?_) (fun h4 => ?_)
      · have hf := q_ip h4 hf
        refine q_blk 2 [] (c' := q_kc (t, r, m, z, N, ext, rx, L) I E 4 [some (.ref 458), some (.int v1), some (.int v2), some (.int (v3 + 1))] [] [] []) ok_X1_leadCount rfl q_cn ?_
        exact ih (I := q_ws I []) (E := q_ws E []) hf (q_Jmrg rfl rfl hK0)
      · have hf := q_in h4 hf
        refine q_blk 3 [] (c' := q_kc (t, r, m, z, N, ext, rx, L) I E 4 [some (.ref 458), some (.int v1), some (.int (v2 + 1)), some (.int (v3 + 1))] [] [] []) ok_X1_leadCount rfl q_cn ?_
        exact ih (I := q_ws I []) (E := q_ws E []) hf (q_Jmrg rfl rfl hK0)
set_option maxHeartbeats 4000000 in
theorem ct_X1_leadCount_458 {g : q_G} {t : Nat} {r : Nat} {m : Nat} {z : Nat} {N : Nat} {ext : Nat → q_Sh} {rx : Nat → Nat → Option Nat} {L : Nat → Nat → Int64} {d : Nat} (hd : 3 ≤ d)  {I : Nat → Nat → Int32} {E : Nat → Nat → Option Nat} {x1 : Int32} {r0 : Int32} (hf : f_X1_leadCount (I 463) (I 464) x1 = some r0) : q_Ct g m_X1_leadCount d 0 0 [] [.ref 458, .int x1] (q_hp (t, r, m, z, N, ext, rx, L) I E) (fun o h' => o = .inl (some (.int r0)) ∧ h' = q_hp (t, r, m, z, N, ext, rx, L) (q_ws I []) (q_ws E [])) := by
  rw [f_X1_leadCount] at hf
  refine q_Ct_of ok_X1_leadCount (Nat.le_of_ble_eq_true rfl) ?_ _ rfl rfl
  change q_J g m_X1_leadCount d 0 0 _ [] _ 0 0 (q_kc (t, r, m, z, N, ext, rx, L) I E 0 [some (.ref 458), some (.int x1), none, none] [] [] [])
  refine q_blk 4 [] (c' := q_kc (t, r, m, z, N, ext, rx, L) I E 4 [some (.ref 458), some (.int x1), some (.int (0 : Int32)), some (.int (0 : Int32))] [] [] []) ok_X1_leadCount rfl q_cn ?_
  obtain ⟨r5, hr5, hf⟩ := q_bd hf
  refine lp_X1_leadCount_L4_458 (I := q_ws I []) (E := q_ws E []) hd (Nat.le_of_ble_eq_true rfl) (Nat.le_of_ble_eq_true rfl) 4096 hr5 ?_
  refine q_Jmrg (lI' := []) (lE' := []) rfl rfl ?_
  refine q_blk 1 [] (c' := q_kc (t, r, m, z, N, ext, rx, L) I E 19 [none, none, some (.int r5), none] [.int r5] [] []) ok_X1_leadCount rfl q_cn ?_
  cases hf
  exact q_kri ok_X1_leadCount rfl rfl rfl (Nat.le_of_ble_eq_true rfl) (Nat.le_of_ble_eq_true rfl) ⟨rfl, q_hpe (q_fin [] rfl) (q_fin [] rfl)⟩
set_option maxHeartbeats 4000000 in
theorem ct_X12_tie_400 {g : q_G} {t : Nat} {r : Nat} {m : Nat} {z : Nat} {N : Nat} {ext : Nat → q_Sh} {rx : Nat → Nat → Option Nat} {L : Nat → Nat → Int64} {d : Nat} (hd : 7 ≤ d)  {I : Nat → Nat → Int32} {E : Nat → Nat → Option Nat} {x1 : Int32} {x2 : Int32} {x3 : Int32} {r0 : (Int32 ⊕ String) × (Nat → Int32)} (hf : f_X12_tie (I 402) (I 463) (I 464) (I 470) x1 x2 x3 = some r0) : q_Ct g m_X12_tie d 3 18 [] [.ref 400, .int x1, .int x2, .int x3] (q_hp (t, r, m, z, N, ext, rx, L) I E) (fun o h' => o = q_oI r0.1 ∧ h' = q_hp (t, r, m, z, N, ext, rx, L) (q_ws I [(464, r0.2)]) (q_ws E [])) := by
  rw [f_X12_tie] at hf
  refine q_Ct_of ok_X12_tie (Nat.le_of_ble_eq_true rfl) ?_ _ rfl rfl
  change q_J g m_X12_tie d 3 18 _ [] _ 0 0 (q_kc (t, r, m, z, N, ext, rx, L) I E 0 [some (.ref 400), some (.int x1), some (.int x2), some (.int x3)] [] [] [])
  refine q_blk 2 [] (c' := q_kc (t, r, m, z, N, ext, rx, L) I E 2 [some (.ref 400), some (.int x1), some (.int x2), some (.int x3)] [.int x1, .ref 400] [] []) ok_X12_tie rfl q_cn ?_
  obtain ⟨r1, hr1, hf⟩ := q_bd hf
  cases hv4 : r1 with
  | inl v2 =>
    have hf := q_sm0 hv4 hf
    refine q_kV (M2 := m_X12_checkHook) (As := [.int x1]) (b := 400) (v2 := none) ok_X12_tie ok_X12_checkHook cv_X12_checkHook (ct_X12_checkHook_400 (d := 6) (Nat.le_refl _) hr1) (q_oVl hv4) rfl (Or.inl rfl) rfl rfl rfl rfl (Nat.le_trans (Nat.le_of_ble_eq_true rfl) hd) (Nat.le_of_ble_eq_true rfl) (Nat.le_of_ble_eq_true rfl) (Nat.le_of_ble_eq_true rfl) (fun x hx => absurd hx List.not_mem_nil) (q_nmL0 _) (q_nmS0 _) rfl (pos' := 3) (st' := []) (lI' := []) (lE' := []) rfl rfl rfl rfl ?_
    refine q_blk 2 [] (c' := q_kc (t, r, m, z, N, ext, rx, L) I E 5 [some (.ref 400), some (.int x1), some (.int x2), some (.int x3)] [.int x3, .ref 400] [] []) ok_X12_tie rfl q_cn ?_
    obtain ⟨r5, hr5, hf⟩ := q_bd hf
    cases hv8 : r5 with
    | inl v6 =>
      have hf := q_sm0 hv8 hf
      refine q_kV (M2 := m_X12_checkHook) (As := [.int x3]) (b := 400) (v2 := none) ok_X12_tie ok_X12_checkHook cv_X12_checkHook (ct_X12_checkHook_400 (d := 6) (Nat.le_refl _) hr5) (q_oVl hv8) rfl (Or.inl rfl) rfl rfl rfl rfl (Nat.le_trans (Nat.le_of_ble_eq_true rfl) hd) (Nat.le_of_ble_eq_true rfl) (Nat.le_of_ble_eq_true rfl) (Nat.le_of_ble_eq_true rfl) (fun x hx => absurd hx List.not_mem_nil) (q_nmL0 _) (q_nmS0 _) rfl (pos' := 6) (st' := []) (lI' := []) (lE' := []) rfl rfl rfl rfl ?_
      refine q_blk 5 [] (c' := q_kc (t, r, m, z, N, ext, rx, L) I E 11 [some (.ref 400), some (.int x1), some (.int x2), some (.int x3)] [.int x3, .int x2, .int x1, .ref 457] [] []) ok_X12_tie rfl q_cn ?_
      obtain ⟨r9, hr9, hf⟩ := q_bd hf
      refine q_kV (M2 := m_X2_tieRope) (As := [.int x1, .int x2, .int x3]) (b := 457) (v2 := some (.int (q_bz r9.1))) ok_X12_tie ok_X2_tieRope cv_X2_tieRope (ct_X2_tieRope_457 (d := 3) (Nat.le_refl _) hr9) rfl rfl (Or.inl rfl) rfl rfl rfl rfl (Nat.le_trans (Nat.le_of_ble_eq_true rfl) hd) (Nat.le_of_ble_eq_true rfl) (Nat.le_of_ble_eq_true rfl) (Nat.le_of_ble_eq_true rfl) (fun x hx => absurd hx List.not_mem_nil) (q_nmL0 _) (q_nmS0 _) rfl (pos' := 12) (st' := [.int (q_bz r9.1)]) (lI' := [(464, r9.2)]) (lE' := []) rfl rfl rfl rfl ?_
      refine q_blf 0 [] (a := q_kc (t, r, m, z, N, ext, rx, L) I E 18 [some (.ref 400), some (.int x1), some (.int x2), some (.int x3)] [] [(464, r9.2)] []) (b := q_kc (t, r, m, z, N, ext, rx, L) I E 13 [some (.ref 400), some (.int x1), some (.int x2), some (.int x3)] [] [(464, r9.2)] []) (P := ¬ (q_bz r9.1) = 0) ok_X12_tie rfl q_cn (fun h10 => ?_) (fun h10 => ?_)
      · have hf := q_ip h10 hf
        refine q_blk 6 [] (c' := q_kc (t, r, m, z, N, ext, rx, L) I E 24 [some (.ref 400), some (.int x1), some (.int x2), some (.int x3)] [.int x1, .ref 457, .ref 458] [(464, r9.2)] []) ok_X12_tie rfl q_cn ?_
        obtain ⟨r11, hr11, hf⟩ := q_bd hf
        refine q_kV (M2 := m_X2_held) (As := [.int x1]) (b := 457) (v2 := some (.int r11)) ok_X12_tie ok_X2_held cv_X2_held (ct_X2_held_457 (d := 1) (Nat.le_refl _) hr11) rfl rfl (Or.inl rfl) rfl rfl rfl rfl (Nat.le_trans (Nat.le_of_ble_eq_true rfl) hd) (Nat.le_of_ble_eq_true rfl) (Nat.le_of_ble_eq_true rfl) (Nat.le_of_ble_eq_true rfl) (fun x hx => absurd hx List.not_mem_nil) (q_nmL0 _) (q_nmS0 _) rfl (pos' := 25) (st' := [.int r11, .ref 458]) (lI' := [(464, r9.2)]) (lE' := []) rfl rfl rfl rfl ?_
        obtain ⟨r12, hr12, hf⟩ := q_bd hf
        refine q_kV (M2 := m_X1_leadCount) (As := [.int r11]) (b := 458) (v2 := some (.int r12)) ok_X12_tie ok_X1_leadCount cv_X1_leadCount (ct_X1_leadCount_458 (d := 3) (Nat.le_refl _) hr12) rfl rfl (Or.inl rfl) rfl rfl rfl rfl (Nat.le_trans (Nat.le_of_ble_eq_true rfl) hd) (Nat.le_of_ble_eq_true rfl) (Nat.le_of_ble_eq_true rfl) (Nat.le_of_ble_eq_true rfl) (fun x hx => absurd hx List.not_mem_nil) (q_nmL0 _) (q_nmS0 _) rfl (pos' := 26) (st' := [.int r12]) (lI' := [(464, r9.2)]) (lE' := []) rfl rfl rfl rfl ?_
        cases hf
        exact q_kri ok_X12_tie rfl rfl rfl (Nat.le_of_ble_eq_true rfl) (Nat.le_of_ble_eq_true rfl) ⟨rfl, q_hpe (q_fin [464] rfl) (q_fin [] rfl)⟩
      · have hf := q_in h10 hf
        cases hf
        exact q_o_throwS ok_X12_tie rfl rfl rfl rfl rfl rfl q_inISE (by decide +kernel) (by decide +kernel) q_fitISE q_fits (Nat.le_trans (Nat.le_of_ble_eq_true rfl) hd) (Nat.le_of_ble_eq_true rfl) (Nat.le_of_ble_eq_true rfl) (Nat.le_of_ble_eq_true rfl) ⟨rfl, q_hpe (q_fin [464] rfl) (q_fin [] rfl)⟩
    | inr e7 =>
      have hf := q_sm1 hv8 hf
      cases hf
      refine q_kVx (M2 := m_X12_checkHook) (As := [.int x3]) (b := 400) ok_X12_tie ok_X12_checkHook cv_X12_checkHook (ct_X12_checkHook_400 (d := 6) (Nat.le_refl _) hr5) (q_oVr hv8) rfl (Or.inl rfl) rfl rfl rfl rfl (Nat.le_trans (Nat.le_of_ble_eq_true rfl) hd) (Nat.le_of_ble_eq_true rfl) (Nat.le_of_ble_eq_true rfl) (Nat.le_of_ble_eq_true rfl) (fun x hx => absurd hx List.not_mem_nil) (q_nmL0 _) (q_nmS0 _) rfl (lI' := []) (lE' := []) rfl rfl ⟨rfl, q_hpe (q_fin [464] rfl) (q_fin [] rfl)⟩
  | inr e3 =>
    have hf := q_sm1 hv4 hf
    cases hf
    refine q_kVx (M2 := m_X12_checkHook) (As := [.int x1]) (b := 400) ok_X12_tie ok_X12_checkHook cv_X12_checkHook (ct_X12_checkHook_400 (d := 6) (Nat.le_refl _) hr1) (q_oVr hv4) rfl (Or.inl rfl) rfl rfl rfl rfl (Nat.le_trans (Nat.le_of_ble_eq_true rfl) hd) (Nat.le_of_ble_eq_true rfl) (Nat.le_of_ble_eq_true rfl) (Nat.le_of_ble_eq_true rfl) (fun x hx => absurd hx List.not_mem_nil) (q_nmL0 _) (q_nmS0 _) rfl (lI' := []) (lE' := []) rfl rfl ⟨rfl, q_hpe (q_fin [464] rfl) (q_fin [] rfl)⟩
set_option maxHeartbeats 4000000 in
theorem ct_X2_followRope_457 {g : q_G} {t : Nat} {r : Nat} {m : Nat} {z : Nat} {N : Nat} {ext : Nat → q_Sh} {rx : Nat → Nat → Option Nat} {L : Nat → Nat → Int64} {d : Nat} (hd : 3 ≤ d)  {I : Nat → Nat → Int32} {E : Nat → Nat → Option Nat} {x1 : Int32} {x2 : Int32} {x3 : Int32} {r0 : Bool × (Nat → Int32)} (hf : f_X2_followRope (I 463) (I 464) (I 470) x1 x2 x3 = some r0) : q_Ct g m_X2_followRope d 0 0 [] [.ref 457, .int x1, .int x2, .int x3] (q_hp (t, r, m, z, N, ext, rx, L) I E) (fun o h' => o = .inl (some (.int (q_bz r0.1))) ∧ h' = q_hp (t, r, m, z, N, ext, rx, L) (q_ws I [(470, r0.2)]) (q_ws E [])) := by
  rw [f_X2_followRope] at hf
  refine q_Ct_of ok_X2_followRope (Nat.le_of_ble_eq_true rfl) ?_ _ rfl rfl
  change q_J g m_X2_followRope d 0 0 _ [] _ 0 0 (q_kc (t, r, m, z, N, ext, rx, L) I E 0 [some (.ref 457), some (.int x1), some (.int x2), some (.int x3), none] [] [] [])
  refine q_blk 4 [] (c' := q_kc (t, r, m, z, N, ext, rx, L) I E 4 [some (.ref 457), some (.int x1), some (.int x2), some (.int x3), none] [.int x2, .ref 457, .ref 458] [] []) ok_X2_followRope rfl q_cn ?_
  obtain ⟨r1, hr1, hf⟩ := q_bd hf
  refine q_kV (M2 := m_X2_held) (As := [.int x2]) (b := 457) (v2 := some (.int r1)) ok_X2_followRope ok_X2_held cv_X2_held (ct_X2_held_457 (d := 1) (Nat.le_refl _) hr1) rfl rfl (Or.inl rfl) rfl rfl rfl rfl (Nat.le_trans (Nat.le_of_ble_eq_true rfl) hd) (Nat.le_of_ble_eq_true rfl) (Nat.le_of_ble_eq_true rfl) (Nat.le_of_ble_eq_true rfl) (fun x hx => absurd hx List.not_mem_nil) (q_nmL0 _) (q_nmS0 _) rfl (pos' := 5) (st' := [.int r1, .ref 458]) (lI' := []) (lE' := []) rfl rfl rfl rfl ?_
  refine q_blk 1 [] (c' := q_kc (t, r, m, z, N, ext, rx, L) I E 6 [some (.ref 457), some (.int x1), some (.int x2), some (.int x3), none] [.int x3, .int r1, .ref 458] [] []) ok_X2_followRope rfl q_cn ?_
  obtain ⟨r2, hr2, hf⟩ := q_bd hf
  refine q_kV (M2 := m_X1_lead) (As := [.int r1, .int x3]) (b := 458) (v2 := some (.int r2)) ok_X2_followRope ok_X1_lead cv_X1_lead (ct_X1_lead_458 (d := 2) (Nat.le_refl _) hr2) rfl rfl (Or.inl rfl) rfl rfl rfl rfl (Nat.le_trans (Nat.le_of_ble_eq_true rfl) hd) (Nat.le_of_ble_eq_true rfl) (Nat.le_of_ble_eq_true rfl) (Nat.le_of_ble_eq_true rfl) (fun x hx => absurd hx List.not_mem_nil) (q_nmL0 _) (q_nmS0 _) rfl (pos' := 7) (st' := [.int r2]) (lI' := []) (lE' := []) rfl rfl rfl rfl ?_
  refine q_blf 3 [] (a := q_kc (t, r, m, z, N, ext, rx, L) I E 13 [some (.ref 457), some (.int x1), some (.int x2), some (.int x3), some (.int r2)] [] [] []) (b := q_kc (t, r, m, z, N, ext, rx, L) I E 11 [some (.ref 457), some (.int x1), some (.int x2), some (.int x3), some (.int r2)] [] [] []) (P := ¬ r2 = (-1 : Int32)) ok_X2_followRope rfl q_cn (fun h3 => ?_) (fun h3 => ?_)
  · have hf := q_ip h3 hf
    refine q_blk 3 [] (c' := q_kc (t, r, m, z, N, ext, rx, L) I E 16 [some (.ref 457), some (.int x1), some (.int x2), some (.int x3), some (.int r2)] [.int r2, .int x1, .ref 457] [] []) ok_X2_followRope rfl q_cn ?_
    obtain ⟨r4, hr4, hf⟩ := q_bd hf
    refine q_kV (M2 := m_X2_hold) (As := [.int x1, .int r2]) (b := 457) (v2 := none) ok_X2_followRope ok_X2_hold cv_X2_hold (ct_X2_hold_457 (d := 1) (Nat.le_refl _) hr4) rfl rfl (Or.inl rfl) rfl rfl rfl rfl (Nat.le_trans (Nat.le_of_ble_eq_true rfl) hd) (Nat.le_of_ble_eq_true rfl) (Nat.le_of_ble_eq_true rfl) (Nat.le_of_ble_eq_true rfl) (fun x hx => absurd hx List.not_mem_nil) (q_nmL0 _) (q_nmS0 _) rfl (pos' := 17) (st' := []) (lI' := [(470, r4)]) (lE' := []) rfl rfl rfl rfl ?_
    refine q_blk 1 [] (c' := q_kc (t, r, m, z, N, ext, rx, L) I E 18 [some (.ref 457), some (.int x1), some (.int x2), some (.int x3), some (.int r2)] [.int (1 : Int32)] [(470, r4)] []) ok_X2_followRope rfl q_cn ?_
    cases hf
    exact q_kri ok_X2_followRope rfl rfl rfl (Nat.le_of_ble_eq_true rfl) (Nat.le_of_ble_eq_true rfl) ⟨rfl, q_hpe (q_fin [470] rfl) (q_fin [] rfl)⟩
  · have hf := q_in h3 hf
    refine q_blk 1 [] (c' := q_kc (t, r, m, z, N, ext, rx, L) I E 12 [some (.ref 457), some (.int x1), some (.int x2), some (.int x3), some (.int r2)] [.int (0 : Int32)] [] []) ok_X2_followRope rfl q_cn ?_
    cases hf
    exact q_kri ok_X2_followRope rfl rfl rfl (Nat.le_of_ble_eq_true rfl) (Nat.le_of_ble_eq_true rfl) ⟨rfl, q_hpe (q_fin [470] rfl) (q_fin [] rfl)⟩
set_option maxHeartbeats 4000000 in
theorem ct_X12_follow_400 {g : q_G} {t : Nat} {r : Nat} {m : Nat} {z : Nat} {N : Nat} {ext : Nat → q_Sh} {rx : Nat → Nat → Option Nat} {L : Nat → Nat → Int64} {d : Nat} (hd : 7 ≤ d)  {I : Nat → Nat → Int32} {E : Nat → Nat → Option Nat} {x1 : Int32} {x2 : Int32} {x3 : Int32} {r0 : (Int32 ⊕ String) × (Nat → Int32)} (hf : f_X12_follow (I 402) (I 460) (I 463) (I 464) (I 470) x1 x2 x3 = some r0) : q_Ct g m_X12_follow d 3 18 [] [.ref 400, .int x1, .int x2, .int x3] (q_hp (t, r, m, z, N, ext, rx, L) I E) (fun o h' => o = q_oI r0.1 ∧ h' = q_hp (t, r, m, z, N, ext, rx, L) (q_ws I [(470, r0.2)]) (q_ws E [])) := by
  rw [f_X12_follow] at hf
  refine q_Ct_of ok_X12_follow (Nat.le_of_ble_eq_true rfl) ?_ _ rfl rfl
  change q_J g m_X12_follow d 3 18 _ [] _ 0 0 (q_kc (t, r, m, z, N, ext, rx, L) I E 0 [some (.ref 400), some (.int x1), some (.int x2), some (.int x3)] [] [] [])
  refine q_blk 2 [] (c' := q_kc (t, r, m, z, N, ext, rx, L) I E 2 [some (.ref 400), some (.int x1), some (.int x2), some (.int x3)] [.int x1, .ref 400] [] []) ok_X12_follow rfl q_cn ?_
  obtain ⟨r1, hr1, hf⟩ := q_bd hf
  cases hv4 : r1 with
  | inl v2 =>
    have hf := q_sm0 hv4 hf
    refine q_kV (M2 := m_X12_checkHook) (As := [.int x1]) (b := 400) (v2 := none) ok_X12_follow ok_X12_checkHook cv_X12_checkHook (ct_X12_checkHook_400 (d := 6) (Nat.le_refl _) hr1) (q_oVl hv4) rfl (Or.inl rfl) rfl rfl rfl rfl (Nat.le_trans (Nat.le_of_ble_eq_true rfl) hd) (Nat.le_of_ble_eq_true rfl) (Nat.le_of_ble_eq_true rfl) (Nat.le_of_ble_eq_true rfl) (fun x hx => absurd hx List.not_mem_nil) (q_nmL0 _) (q_nmS0 _) rfl (pos' := 3) (st' := []) (lI' := []) (lE' := []) rfl rfl rfl rfl ?_
    refine q_blk 2 [] (c' := q_kc (t, r, m, z, N, ext, rx, L) I E 5 [some (.ref 400), some (.int x1), some (.int x2), some (.int x3)] [.int x2, .ref 400] [] []) ok_X12_follow rfl q_cn ?_
    obtain ⟨r5, hr5, hf⟩ := q_bd hf
    cases hv8 : r5 with
    | inl v6 =>
      have hf := q_sm0 hv8 hf
      refine q_kV (M2 := m_X12_checkHook) (As := [.int x2]) (b := 400) (v2 := none) ok_X12_follow ok_X12_checkHook cv_X12_checkHook (ct_X12_checkHook_400 (d := 6) (Nat.le_refl _) hr5) (q_oVl hv8) rfl (Or.inl rfl) rfl rfl rfl rfl (Nat.le_trans (Nat.le_of_ble_eq_true rfl) hd) (Nat.le_of_ble_eq_true rfl) (Nat.le_of_ble_eq_true rfl) (Nat.le_of_ble_eq_true rfl) (fun x hx => absurd hx List.not_mem_nil) (q_nmL0 _) (q_nmS0 _) rfl (pos' := 6) (st' := []) (lI' := []) (lE' := []) rfl rfl rfl rfl ?_
      refine q_blk 5 [] (c' := q_kc (t, r, m, z, N, ext, rx, L) I E 11 [some (.ref 400), some (.int x1), some (.int x2), some (.int x3)] [.int x3, .int x2, .int x1, .ref 457] [] []) ok_X12_follow rfl q_cn ?_
      obtain ⟨r9, hr9, hf⟩ := q_bd hf
      refine q_kV (M2 := m_X2_followRope) (As := [.int x1, .int x2, .int x3]) (b := 457) (v2 := some (.int (q_bz r9.1))) ok_X12_follow ok_X2_followRope cv_X2_followRope (ct_X2_followRope_457 (d := 3) (Nat.le_refl _) hr9) rfl rfl (Or.inl rfl) rfl rfl rfl rfl (Nat.le_trans (Nat.le_of_ble_eq_true rfl) hd) (Nat.le_of_ble_eq_true rfl) (Nat.le_of_ble_eq_true rfl) (Nat.le_of_ble_eq_true rfl) (fun x hx => absurd hx List.not_mem_nil) (q_nmL0 _) (q_nmS0 _) rfl (pos' := 12) (st' := [.int (q_bz r9.1)]) (lI' := [(470, r9.2)]) (lE' := []) rfl rfl rfl rfl ?_
      refine q_blf 0 [] (a := q_kc (t, r, m, z, N, ext, rx, L) I E 18 [some (.ref 400), some (.int x1), some (.int x2), some (.int x3)] [] [(470, r9.2)] []) (b := q_kc (t, r, m, z, N, ext, rx, L) I E 13 [some (.ref 400), some (.int x1), some (.int x2), some (.int x3)] [] [(470, r9.2)] []) (P := ¬ (q_bz r9.1) = 0) ok_X12_follow rfl q_cn (fun h10 => ?_) (fun h10 => ?_)
      · have hf := q_ip h10 hf
        refine q_blk 6 [] (c' := q_kc (t, r, m, z, N, ext, rx, L) I E 24 [some (.ref 400), some (.int x1), some (.int x2), some (.int x3)] [.int x1, .ref 457, .ref 458] [(470, r9.2)] []) ok_X12_follow rfl q_cn ?_
        obtain ⟨r11, hr11, hf⟩ := q_bd hf
        refine q_kV (M2 := m_X2_held) (As := [.int x1]) (b := 457) (v2 := some (.int r11)) ok_X12_follow ok_X2_held cv_X2_held (ct_X2_held_457 (d := 1) (Nat.le_refl _) hr11) rfl rfl (Or.inl rfl) rfl rfl rfl rfl (Nat.le_trans (Nat.le_of_ble_eq_true rfl) hd) (Nat.le_of_ble_eq_true rfl) (Nat.le_of_ble_eq_true rfl) (Nat.le_of_ble_eq_true rfl) (fun x hx => absurd hx List.not_mem_nil) (q_nmL0 _) (q_nmS0 _) rfl (pos' := 25) (st' := [.int r11, .ref 458]) (lI' := [(470, r9.2)]) (lE' := []) rfl rfl rfl rfl ?_
        obtain ⟨r12, hr12, hf⟩ := q_bd hf
        refine q_kV (M2 := m_X1_place) (As := [.int r11]) (b := 458) (v2 := some (.int r12)) ok_X12_follow ok_X1_place cv_X1_place (ct_X1_place_458 (d := 1) (Nat.le_refl _) hr12) rfl rfl (Or.inl rfl) rfl rfl rfl rfl (Nat.le_trans (Nat.le_of_ble_eq_true rfl) hd) (Nat.le_of_ble_eq_true rfl) (Nat.le_of_ble_eq_true rfl) (Nat.le_of_ble_eq_true rfl) (fun x hx => absurd hx List.not_mem_nil) (q_nmL0 _) (q_nmS0 _) rfl (pos' := 26) (st' := [.int r12]) (lI' := [(470, r9.2)]) (lE' := []) rfl rfl rfl rfl ?_
        cases hf
        exact q_kri ok_X12_follow rfl rfl rfl (Nat.le_of_ble_eq_true rfl) (Nat.le_of_ble_eq_true rfl) ⟨rfl, q_hpe (q_fin [470] rfl) (q_fin [] rfl)⟩
      · have hf := q_in h10 hf
        cases hf
        exact q_o_throwS ok_X12_follow rfl rfl rfl rfl rfl rfl q_inISE (by decide +kernel) (by decide +kernel) q_fitISE q_fits (Nat.le_trans (Nat.le_of_ble_eq_true rfl) hd) (Nat.le_of_ble_eq_true rfl) (Nat.le_of_ble_eq_true rfl) (Nat.le_of_ble_eq_true rfl) ⟨rfl, q_hpe (q_fin [470] rfl) (q_fin [] rfl)⟩
    | inr e7 =>
      have hf := q_sm1 hv8 hf
      cases hf
      refine q_kVx (M2 := m_X12_checkHook) (As := [.int x2]) (b := 400) ok_X12_follow ok_X12_checkHook cv_X12_checkHook (ct_X12_checkHook_400 (d := 6) (Nat.le_refl _) hr5) (q_oVr hv8) rfl (Or.inl rfl) rfl rfl rfl rfl (Nat.le_trans (Nat.le_of_ble_eq_true rfl) hd) (Nat.le_of_ble_eq_true rfl) (Nat.le_of_ble_eq_true rfl) (Nat.le_of_ble_eq_true rfl) (fun x hx => absurd hx List.not_mem_nil) (q_nmL0 _) (q_nmS0 _) rfl (lI' := []) (lE' := []) rfl rfl ⟨rfl, q_hpe (q_fin [470] rfl) (q_fin [] rfl)⟩
  | inr e3 =>
    have hf := q_sm1 hv4 hf
    cases hf
    refine q_kVx (M2 := m_X12_checkHook) (As := [.int x1]) (b := 400) ok_X12_follow ok_X12_checkHook cv_X12_checkHook (ct_X12_checkHook_400 (d := 6) (Nat.le_refl _) hr1) (q_oVr hv4) rfl (Or.inl rfl) rfl rfl rfl rfl (Nat.le_trans (Nat.le_of_ble_eq_true rfl) hd) (Nat.le_of_ble_eq_true rfl) (Nat.le_of_ble_eq_true rfl) (Nat.le_of_ble_eq_true rfl) (fun x hx => absurd hx List.not_mem_nil) (q_nmL0 _) (q_nmS0 _) rfl (lI' := []) (lE' := []) rfl rfl ⟨rfl, q_hpe (q_fin [470] rfl) (q_fin [] rfl)⟩
set_option maxHeartbeats 4000000 in
theorem ct_X2_dropBale_457 {g : q_G} {t : Nat} {r : Nat} {m : Nat} {z : Nat} {N : Nat} {ext : Nat → q_Sh} {rx : Nat → Nat → Option Nat} {L : Nat → Nat → Int64} {d : Nat} (hd : 2 ≤ d)  {I : Nat → Nat → Int32} {E : Nat → Nat → Option Nat} {x1 : Int32} {r0 : Bool × (Nat → Int32)} (hf : f_X2_dropBale (I 470) x1 = some r0) : q_Ct g m_X2_dropBale d 0 0 [] [.ref 457, .int x1] (q_hp (t, r, m, z, N, ext, rx, L) I E) (fun o h' => o = .inl (some (.int (q_bz r0.1))) ∧ h' = q_hp (t, r, m, z, N, ext, rx, L) (q_ws I [(470, r0.2)]) (q_ws E [])) := by
  rw [f_X2_dropBale] at hf
  refine q_Ct_of ok_X2_dropBale (Nat.le_of_ble_eq_true rfl) ?_ _ rfl rfl
  change q_J g m_X2_dropBale d 0 0 _ [] _ 0 0 (q_kc (t, r, m, z, N, ext, rx, L) I E 0 [some (.ref 457), some (.int x1)] [] [] [])
  refine q_blk 2 [] (c' := q_kc (t, r, m, z, N, ext, rx, L) I E 2 [some (.ref 457), some (.int x1)] [.int x1, .ref 457] [] []) ok_X2_dropBale rfl q_cn ?_
  obtain ⟨r1, hr1, hf⟩ := q_bd hf
  refine q_kV (M2 := m_X2_held) (As := [.int x1]) (b := 457) (v2 := some (.int r1)) ok_X2_dropBale ok_X2_held cv_X2_held (ct_X2_held_457 (d := 1) (Nat.le_refl _) hr1) rfl rfl (Or.inl rfl) rfl rfl rfl rfl (Nat.le_trans (Nat.le_of_ble_eq_true rfl) hd) (Nat.le_of_ble_eq_true rfl) (Nat.le_of_ble_eq_true rfl) (Nat.le_of_ble_eq_true rfl) (fun x hx => absurd hx List.not_mem_nil) (q_nmL0 _) (q_nmS0 _) rfl (pos' := 3) (st' := [.int r1]) (lI' := []) (lE' := []) rfl rfl rfl rfl ?_
  refine q_blf 1 [] (a := q_kc (t, r, m, z, N, ext, rx, L) I E 7 [some (.ref 457), some (.int x1)] [] [] []) (b := q_kc (t, r, m, z, N, ext, rx, L) I E 5 [some (.ref 457), some (.int x1)] [] [] []) (P := ¬ r1 = (-1 : Int32)) ok_X2_dropBale rfl q_cn (fun h2 => ?_) (fun h2 => ?_)
  · have hf := q_ip h2 hf
    refine q_blk 3 [] (c' := q_kc (t, r, m, z, N, ext, rx, L) I E 10 [some (.ref 457), some (.int x1)] [.int (-1 : Int32), .int x1, .ref 457] [] []) ok_X2_dropBale rfl q_cn ?_
    obtain ⟨r3, hr3, hf⟩ := q_bd hf
    refine q_kV (M2 := m_X2_hold) (As := [.int x1, .int (-1 : Int32)]) (b := 457) (v2 := none) ok_X2_dropBale ok_X2_hold cv_X2_hold (ct_X2_hold_457 (d := 1) (Nat.le_refl _) hr3) rfl rfl (Or.inl rfl) rfl rfl rfl rfl (Nat.le_trans (Nat.le_of_ble_eq_true rfl) hd) (Nat.le_of_ble_eq_true rfl) (Nat.le_of_ble_eq_true rfl) (Nat.le_of_ble_eq_true rfl) (fun x hx => absurd hx List.not_mem_nil) (q_nmL0 _) (q_nmS0 _) rfl (pos' := 11) (st' := []) (lI' := [(470, r3)]) (lE' := []) rfl rfl rfl rfl ?_
    refine q_blk 1 [] (c' := q_kc (t, r, m, z, N, ext, rx, L) I E 12 [some (.ref 457), some (.int x1)] [.int (1 : Int32)] [(470, r3)] []) ok_X2_dropBale rfl q_cn ?_
    cases hf
    exact q_kri ok_X2_dropBale rfl rfl rfl (Nat.le_of_ble_eq_true rfl) (Nat.le_of_ble_eq_true rfl) ⟨rfl, q_hpe (q_fin [470] rfl) (q_fin [] rfl)⟩
  · have hf := q_in h2 hf
    refine q_blk 1 [] (c' := q_kc (t, r, m, z, N, ext, rx, L) I E 6 [some (.ref 457), some (.int x1)] [.int (0 : Int32)] [] []) ok_X2_dropBale rfl q_cn ?_
    cases hf
    exact q_kri ok_X2_dropBale rfl rfl rfl (Nat.le_of_ble_eq_true rfl) (Nat.le_of_ble_eq_true rfl) ⟨rfl, q_hpe (q_fin [470] rfl) (q_fin [] rfl)⟩
set_option maxHeartbeats 4000000 in
theorem ct_X12_drop_400 {g : q_G} {t : Nat} {r : Nat} {m : Nat} {z : Nat} {N : Nat} {ext : Nat → q_Sh} {rx : Nat → Nat → Option Nat} {L : Nat → Nat → Int64} {d : Nat} (hd : 7 ≤ d)  {I : Nat → Nat → Int32} {E : Nat → Nat → Option Nat} {x1 : Int32} {r0 : (Int32 ⊕ String) × (Nat → Int32) × (Nat → Int32) × (Nat → Int32) × (Nat → Int32)} (hf : f_X12_drop (I 402) (I 457) (I 463) (I 464) (I 465) (I 467) (I 468) (I 469) (I 470) x1 = some r0) : q_Ct g m_X12_drop d 2 12 [] [.ref 400, .int x1] (q_hp (t, r, m, z, N, ext, rx, L) I E) (fun o h' => o = q_oI r0.1 ∧ h' = q_hp (t, r, m, z, N, ext, rx, L) (q_ws I [(467, r0.2.1), (468, r0.2.2.1), (469, r0.2.2.2.1), (470, r0.2.2.2.2)]) (q_ws E [])) := by
  rw [f_X12_drop] at hf
  refine q_Ct_of ok_X12_drop (Nat.le_of_ble_eq_true rfl) ?_ _ rfl rfl
  change q_J g m_X12_drop d 2 12 _ [] _ 0 0 (q_kc (t, r, m, z, N, ext, rx, L) I E 0 [some (.ref 400), some (.int x1)] [] [] [])
  refine q_blk 2 [] (c' := q_kc (t, r, m, z, N, ext, rx, L) I E 2 [some (.ref 400), some (.int x1)] [.int x1, .ref 400] [] []) ok_X12_drop rfl q_cn ?_
  obtain ⟨r1, hr1, hf⟩ := q_bd hf
  cases hv4 : r1 with
  | inl v2 =>
    have hf := q_sm0 hv4 hf
    refine q_kV (M2 := m_X12_checkHook) (As := [.int x1]) (b := 400) (v2 := none) ok_X12_drop ok_X12_checkHook cv_X12_checkHook (ct_X12_checkHook_400 (d := 6) (Nat.le_refl _) hr1) (q_oVl hv4) rfl (Or.inl rfl) rfl rfl rfl rfl (Nat.le_trans (Nat.le_of_ble_eq_true rfl) hd) (Nat.le_of_ble_eq_true rfl) (Nat.le_of_ble_eq_true rfl) (Nat.le_of_ble_eq_true rfl) (fun x hx => absurd hx List.not_mem_nil) (q_nmL0 _) (q_nmS0 _) rfl (pos' := 3) (st' := []) (lI' := []) (lE' := []) rfl rfl rfl rfl ?_
    refine q_blk 3 [] (c' := q_kc (t, r, m, z, N, ext, rx, L) I E 6 [some (.ref 400), some (.int x1)] [.int x1, .ref 457] [] []) ok_X12_drop rfl q_cn ?_
    obtain ⟨r5, hr5, hf⟩ := q_bd hf
    refine q_kV (M2 := m_X2_dropBale) (As := [.int x1]) (b := 457) (v2 := some (.int (q_bz r5.1))) ok_X12_drop ok_X2_dropBale cv_X2_dropBale (ct_X2_dropBale_457 (d := 2) (Nat.le_refl _) hr5) rfl rfl (Or.inl rfl) rfl rfl rfl rfl (Nat.le_trans (Nat.le_of_ble_eq_true rfl) hd) (Nat.le_of_ble_eq_true rfl) (Nat.le_of_ble_eq_true rfl) (Nat.le_of_ble_eq_true rfl) (fun x hx => absurd hx List.not_mem_nil) (q_nmL0 _) (q_nmS0 _) rfl (pos' := 7) (st' := [.int (q_bz r5.1)]) (lI' := [(470, r5.2)]) (lE' := []) rfl rfl rfl rfl ?_
    refine q_blf 0 [] (a := q_kc (t, r, m, z, N, ext, rx, L) I E 13 [some (.ref 400), some (.int x1)] [] [(470, r5.2)] []) (b := q_kc (t, r, m, z, N, ext, rx, L) I E 8 [some (.ref 400), some (.int x1)] [] [(470, r5.2)] []) (P := ¬ (q_bz r5.1) = 0) ok_X12_drop rfl q_cn (fun h6 => ?_) (fun h6 => ?_)
    · have hf := q_ip h6 hf
      refine q_blk 2 [] (c' := q_kc (t, r, m, z, N, ext, rx, L) I E 15 [some (.ref 400), some (.int x1)] [.ref 457] [(470, r5.2)] []) ok_X12_drop rfl q_cn ?_
      obtain ⟨r7, hr7, hf⟩ := q_bd hf
      refine q_kV (M2 := m_X2_uselessCount) (As := []) (b := 457) (v2 := some (.int r7.1)) ok_X12_drop ok_X2_uselessCount cv_X2_uselessCount (ct_X2_uselessCount_457 (d := 5) (Nat.le_refl _) hr7) rfl rfl (Or.inl rfl) rfl rfl rfl rfl (Nat.le_trans (Nat.le_of_ble_eq_true rfl) hd) (Nat.le_of_ble_eq_true rfl) (Nat.le_of_ble_eq_true rfl) (Nat.le_of_ble_eq_true rfl) (fun x hx => absurd hx List.not_mem_nil) (q_nmL0 _) (q_nmS0 _) rfl (pos' := 16) (st' := [.int r7.1]) (lI' := [(467, r7.2.1), (468, r7.2.2.1), (469, r7.2.2.2), (470, r5.2)]) (lE' := []) rfl rfl rfl rfl ?_
      cases hf
      exact q_kri ok_X12_drop rfl rfl rfl (Nat.le_of_ble_eq_true rfl) (Nat.le_of_ble_eq_true rfl) ⟨rfl, q_hpe (q_fin [467, 468, 469, 470] rfl) (q_fin [] rfl)⟩
    · have hf := q_in h6 hf
      cases hf
      exact q_o_throwS ok_X12_drop rfl rfl rfl rfl rfl rfl q_inISE (by decide +kernel) (by decide +kernel) q_fitISE q_fits (Nat.le_trans (Nat.le_of_ble_eq_true rfl) hd) (Nat.le_of_ble_eq_true rfl) (Nat.le_of_ble_eq_true rfl) (Nat.le_of_ble_eq_true rfl) ⟨rfl, q_hpe (q_fin [467, 468, 469, 470] rfl) (q_fin [] rfl)⟩
  | inr e3 =>
    have hf := q_sm1 hv4 hf
    cases hf
    refine q_kVx (M2 := m_X12_checkHook) (As := [.int x1]) (b := 400) ok_X12_drop ok_X12_checkHook cv_X12_checkHook (ct_X12_checkHook_400 (d := 6) (Nat.le_refl _) hr1) (q_oVr hv4) rfl (Or.inl rfl) rfl rfl rfl rfl (Nat.le_trans (Nat.le_of_ble_eq_true rfl) hd) (Nat.le_of_ble_eq_true rfl) (Nat.le_of_ble_eq_true rfl) (Nat.le_of_ble_eq_true rfl) (fun x hx => absurd hx List.not_mem_nil) (q_nmL0 _) (q_nmS0 _) rfl (lI' := []) (lE' := []) rfl rfl ⟨rfl, q_hpe (q_fin [467, 468, 469, 470] rfl) (q_fin [] rfl)⟩
set_option maxHeartbeats 4000000 in
theorem ct_X12_copyNow_400 {g : q_G} {t : Nat} {r : Nat} {m : Nat} {ext : Nat → q_Sh} {rx : Nat → Nat → Option Nat} {L : Nat → Nat → Int64} {d : Nat} (hd : 4 ≤ d)  {I : Nat → Nat → Int32} {E : Nat → Nat → Option Nat} {r0 : Int32 × (Nat → Int32) × (Nat → Int32) × (Nat → Int32) × (Nat → Int32) × (Nat → Int32) × (Nat → Int32) × (Nat → Int32) × (Nat → Int32) × (Nat → Int32) × (Nat → Int32) × (Nat → Int32)} (hf : f_X12_copyNow (I 402) (I 457) (I 459) (I 460) (I 461) (I 462) (I 463) (I 464) (I 465) (I 466) (I 467) (I 468) (I 469) (I 470) (I 471) (I 472) = some r0) : q_Ct g m_X12_copyNow d 0 0 [471, 472] [.ref 400] (q_hp (t, r, m, 499, 529, ext, rx, L) I E) (fun o h' => o = .inl (some (.int r0.1)) ∧ h' = q_hp (t, r, m, 499, 529, ext, rx, L) (q_ws I [(457, r0.2.1), (459, r0.2.2.1), (460, r0.2.2.2.1), (462, r0.2.2.2.2.1), (465, r0.2.2.2.2.2.1), (466, r0.2.2.2.2.2.2.1), (467, r0.2.2.2.2.2.2.2.1), (468, r0.2.2.2.2.2.2.2.2.1), (469, r0.2.2.2.2.2.2.2.2.2.1), (471, r0.2.2.2.2.2.2.2.2.2.2.1), (472, r0.2.2.2.2.2.2.2.2.2.2.2)]) (q_ws E [])) := by
  rw [f_X12_copyNow] at hf
  refine q_Ct_of ok_X12_copyNow (Nat.le_of_ble_eq_true rfl) ?_ _ rfl rfl
  change q_J g m_X12_copyNow d 0 0 _ [471, 472] _ 0 0 (q_kc (t, r, m, 499, 529, ext, rx, L) I E 0 [some (.ref 400)] [] [] [])
  refine q_blk 2 [] (c' := q_kc (t, r, m, 499, 529, ext, rx, L) I E 2 [some (.ref 400)] [.ref 457] [] []) ok_X12_copyNow rfl q_cn ?_
  refine q_less (ls' := [none]) (q_sb1 q_sb0) ?_
  obtain ⟨r1, hr1, hf⟩ := q_bd hf
  refine q_kV (M2 := m_X2_copyHalf) (As := []) (b := 457) (v2 := some (.int r1.1)) ok_X12_copyNow ok_X2_copyHalf cv_X2_copyHalf (ct_X2_copyHalf_457 (d := 3) (Nat.le_refl _) hr1) rfl rfl (Or.inl rfl) rfl rfl rfl rfl (Nat.le_trans (Nat.le_of_ble_eq_true rfl) hd) (Nat.le_of_ble_eq_true rfl) (Nat.le_of_ble_eq_true rfl) (Nat.le_of_ble_eq_true rfl) (fun x hx => hx) rfl rfl rfl (pos' := 3) (st' := [.int r1.1]) (lI' := [(457, r1.2.1), (459, r1.2.2.1), (460, r1.2.2.2.1), (462, r1.2.2.2.2.1), (465, r1.2.2.2.2.2.1), (466, r1.2.2.2.2.2.2.1), (467, r1.2.2.2.2.2.2.2.1), (468, r1.2.2.2.2.2.2.2.2.1), (469, r1.2.2.2.2.2.2.2.2.2.1), (471, r1.2.2.2.2.2.2.2.2.2.2.1), (472, r1.2.2.2.2.2.2.2.2.2.2.2)]) (lE' := []) rfl rfl rfl rfl ?_
  cases hf
  exact q_kri ok_X12_copyNow rfl rfl rfl (Nat.le_of_ble_eq_true rfl) (Nat.le_of_ble_eq_true rfl) ⟨rfl, q_hpe (q_fin [457, 459, 460, 462, 465, 466, 467, 468, 469, 471, 472] rfl) (q_fin [] rfl)⟩
set_option maxHeartbeats 4000000 in
theorem ct_X1_isGone_458 {g : q_G} {t : Nat} {r : Nat} {m : Nat} {z : Nat} {N : Nat} {ext : Nat → q_Sh} {rx : Nat → Nat → Option Nat} {L : Nat → Nat → Int64} {d : Nat} (hd : 1 ≤ d)  {I : Nat → Nat → Int32} {E : Nat → Nat → Option Nat} {x1 : Int32} {r0 : Bool} (hf : f_X1_isGone (I 459) x1 = some r0) : q_Ct g m_X1_isGone d 0 0 [] [.ref 458, .int x1] (q_hp (t, r, m, z, N, ext, rx, L) I E) (fun o h' => o = .inl (some (.int (q_bz r0))) ∧ h' = q_hp (t, r, m, z, N, ext, rx, L) (q_ws I []) (q_ws E [])) := by
  rw [f_X1_isGone] at hf
  refine q_Ct_of ok_X1_isGone (Nat.le_of_ble_eq_true rfl) ?_ _ rfl rfl
  change q_J g m_X1_isGone d 0 0 _ [] _ 0 0 (q_kc (t, r, m, z, N, ext, rx, L) I E 0 [some (.ref 458), some (.int x1)] [] [] [])
  refine q_blf 1 [] (a := q_kc (t, r, m, z, N, ext, rx, L) I E 10 [some (.ref 458), some (.int x1)] [] [] []) (b := q_kc (t, r, m, z, N, ext, rx, L) I E 2 [some (.ref 458), some (.int x1)] [] [] []) (P := x1 < 0) ok_X1_isGone rfl q_cn (fun h1 => ?_) (fun h1 => ?_)
  · have hf := q_ip h1 hf
    refine q_blk 2 [] (c' := q_kc (t, r, m, z, N, ext, rx, L) I E 13 [some (.ref 458), some (.int x1)] [.int (1 : Int32)] [] []) ok_X1_isGone rfl q_cn ?_
    cases hf
    exact q_kri ok_X1_isGone rfl rfl rfl (Nat.le_of_ble_eq_true rfl) (Nat.le_of_ble_eq_true rfl) ⟨rfl, q_hpe (q_fin [] rfl) (q_fin [] rfl)⟩
  · have hf := q_in h1 hf
    refine q_blf 2 [] (a := q_kc (t, r, m, z, N, ext, rx, L) I E 10 [some (.ref 458), some (.int x1)] [] [] []) (b := q_kc (t, r, m, z, N, ext, rx, L) I E 5 [some (.ref 458), some (.int x1)] [] [] []) (P := (128 : Int32) ≤ x1) ok_X1_isGone rfl q_cn (fun h2 => ?_) (fun h2 => ?_)
    · have hf := q_ip h2 hf
      refine q_blk 2 [] (c' := q_kc (t, r, m, z, N, ext, rx, L) I E 13 [some (.ref 458), some (.int x1)] [.int (1 : Int32)] [] []) ok_X1_isGone rfl q_cn ?_
      cases hf
      exact q_kri ok_X1_isGone rfl rfl rfl (Nat.le_of_ble_eq_true rfl) (Nat.le_of_ble_eq_true rfl) ⟨rfl, q_hpe (q_fin [] rfl) (q_fin [] rfl)⟩
    · have hf := q_in h2 hf
      obtain ⟨j3, hj3, hf⟩ := q_bd hf
      refine q_blf 4 [j3] (a := q_kc (t, r, m, z, N, ext, rx, L) I E 12 [some (.ref 458), some (.int x1)] [] [] []) (b := q_kc (t, r, m, z, N, ext, rx, L) I E 10 [some (.ref 458), some (.int x1)] [] [] []) (P := ¬ ((I 459) j3) = 0) ok_X1_isGone rfl (q_cc hj3 q_cn) (fun h4 => ?_) (fun h4 => ?_)
      · have hf := q_ip h4 hf
        refine q_blk 1 [] (c' := q_kc (t, r, m, z, N, ext, rx, L) I E 13 [some (.ref 458), some (.int x1)] [.int (0 : Int32)] [] []) ok_X1_isGone rfl q_cn ?_
        cases hf
        exact q_kri ok_X1_isGone rfl rfl rfl (Nat.le_of_ble_eq_true rfl) (Nat.le_of_ble_eq_true rfl) ⟨rfl, q_hpe (q_fin [] rfl) (q_fin [] rfl)⟩
      · have hf := q_in h4 hf
        refine q_blk 2 [] (c' := q_kc (t, r, m, z, N, ext, rx, L) I E 13 [some (.ref 458), some (.int x1)] [.int (1 : Int32)] [] []) ok_X1_isGone rfl q_cn ?_
        cases hf
        exact q_kri ok_X1_isGone rfl rfl rfl (Nat.le_of_ble_eq_true rfl) (Nat.le_of_ble_eq_true rfl) ⟨rfl, q_hpe (q_fin [] rfl) (q_fin [] rfl)⟩
set_option maxHeartbeats 4000000 in
theorem lp_X1_untieFromGone_L7_458 {g : q_G} {d mc ms : Nat} {h0 : q_H} {Q : (Option Value ⊕ String) → q_H → Prop} {k n : Nat} {t : Nat} {r : Nat} {m : Nat} {z : Nat} {N : Nat} {ext : Nat → q_Sh} {rx : Nat → Nat → Option Nat} {L : Nat → Nat → Int64} (hd : 3 ≤ d) (hk : k ≤ mc) (hn : n ≤ ms)  {v1 : Int32} : ∀ (fu : Nat) {I : Nat → Nat → Int32} {E : Nat → Nat → Option Nat} {v2 : Int32} {r0 : (Nat → Int32)} (hf : f_X1_untieFromGone_L7 (I 459) (I 463) v1 fu (I 464) v2 = some r0) (hK0 : q_J g m_X1_untieFromGone d mc ms h0 [] Q k n (q_kc (t, r, m, z, N, ext, rx, L) I E 26 [some (.ref 458), some (.int v1), none] [] [(464, r0)] [])), q_J g m_X1_untieFromGone d mc ms h0 [] Q k n (7, [some (.ref 458), some (.int v1), some (.int v2)], [], q_hp (t, r, m, z, N, ext, rx, L) I E) := by
  intro fu
  induction fu with
  | zero =>
    intro I E v2 r0 hf hK0
    rw [f_X1_untieFromGone_L7] at hf
    cases hf
  | succ fu ih =>
    intro I E v2 r0 hf hK0
    rw [f_X1_untieFromGone_L7] at hf
    change q_J g m_X1_untieFromGone d mc ms h0 [] Q k n (q_kc (t, r, m, z, N, ext, rx, L) I E 7 [some (.ref 458), some (.int v1), some (.int v2)] [] [] [])
    refine q_blk 3 [] (c' := q_kc (t, r, m, z, N, ext, rx, L) I E 10 [some (.ref 458), some (.int v1), some (.int v2)] [.int v1, .ref 458, .int v2] [] []) ok_X1_untieFromGone rfl q_cn ?_
    obtain ⟨r1, hr1, hf⟩ := q_bd hf
    refine q_kV (M2 := m_X1_ropes) (As := [.int v1]) (b := 458) (v2 := some (.int r1)) ok_X1_untieFromGone ok_X1_ropes cv_X1_ropes (ct_X1_ropes_458 (d := 1) (Nat.le_refl _) hr1) rfl rfl (Or.inl rfl) rfl rfl rfl rfl (Nat.le_trans (Nat.le_of_ble_eq_true rfl) hd) hk hn (Nat.le_of_ble_eq_true rfl) (fun x hx => absurd hx List.not_mem_nil) (q_nmL0 _) (q_nmS0 _) rfl (pos' := 11) (st' := [.int r1, .int v2]) (lI' := []) (lE' := []) rfl rfl rfl rfl ?_
    refine q_blf 0 [] (a := q_kc (t, r, m, z, N, ext, rx, L) I E 26 [some (.ref 458), some (.int v1), some (.int v2)] [] [] []) (b := q_kc (t, r, m, z, N, ext, rx, L) I E 12 [some (.ref 458), some (.int v1), some (.int v2)] [] [] []) (P := r1 ≤ v2) ok_X1_untieFromGone rfl q_cn (fun h2 => ?_) (fun h2 => ?_)
    · have hf := q_ip h2 hf
      refine q_less (ls' := [some (.ref 458), some (.int v1), none]) (q_sb2 (q_sb2 (q_sb1 q_sb0))) ?_
      cases hf
      exact q_Jpad [464] [] rfl rfl hK0
    · have hf := q_in h2 hf
      refine q_blk 4 [] (c' := q_kc (t, r, m, z, N, ext, rx, L) I E 16 [some (.ref 458), some (.int v1), some (.int v2)] [.int v2, .int v1, .ref 458, .ref 458] [] []) ok_X1_untieFromGone rfl q_cn ?_
      obtain ⟨r3, hr3, hf⟩ := q_bd hf
      refine q_kV (M2 := m_X1_lead) (As := [.int v1, .int v2]) (b := 458) (v2 := some (.int r3)) ok_X1_untieFromGone ok_X1_lead cv_X1_lead (ct_X1_lead_458 (d := 2) (Nat.le_refl _) hr3) rfl rfl (Or.inl rfl) rfl rfl rfl rfl (Nat.le_trans (Nat.le_of_ble_eq_true rfl) hd) hk hn (Nat.le_of_ble_eq_true rfl) (fun x hx => absurd hx List.not_mem_nil) (q_nmL0 _) (q_nmS0 _) rfl (pos' := 17) (st' := [.int r3, .ref 458]) (lI' := []) (lE' := []) rfl rfl rfl rfl ?_
      obtain ⟨r4, hr4, hf⟩ := q_bd hf
      refine q_kV (M2 := m_X1_isGone) (As := [.int r3]) (b := 458) (v2 := some (.int (q_bz r4))) ok_X1_untieFromGone ok_X1_isGone cv_X1_isGone (ct_X1_isGone_458 (d := 1) (Nat.le_refl _) hr4) rfl rfl (Or.inl rfl) rfl rfl rfl rfl (Nat.le_trans (Nat.le_of_ble_eq_true rfl) hd) hk hn (Nat.le_of_ble_eq_true rfl) (fun x hx => absurd hx List.not_mem_nil) (q_nmL0 _) (q_nmS0 _) rfl (pos' := 18) (st' := [.int (q_bz r4)]) (lI' := []) (lE' := []) rfl rfl rfl rfl ?_
      refine q_blf 0 [] (a := q_kc (t, r, m, z, N, ext, rx, L) I E 24 [some (.ref 458), some (.int v1), some (.int v2)] [] [] []) (b := q_kc (t, r, m, z, N, ext, rx, L) I E 19 [some (.ref 458), some (.int v1), some (.int v2)] [] [] []) (P := (q_bz r4) = 0) ok_X1_untieFromGone rfl q_cn (fun h5 => ?_) (fun h5 => ?_)
      · have hf := q_ip h5 hf
        refine q_blk 2 [] (c' := q_kc (t, r, m, z, N, ext, rx, L) I E 7 [some (.ref 458), some (.int v1), some (.int (v2 + 1))] [] [] []) ok_X1_untieFromGone rfl q_cn ?_
        exact ih (I := q_ws I []) (E := q_ws E []) hf (q_Jmrg rfl rfl hK0)
      · have hf := q_in h5 hf
        refine q_blk 4 [] (c' := q_kc (t, r, m, z, N, ext, rx, L) I E 23 [some (.ref 458), some (.int v1), some (.int v2)] [.int (-1 : Int32), .int v2, .int v1, .ref 458] [] []) ok_X1_untieFromGone rfl q_cn ?_
        obtain ⟨r6, hr6, hf⟩ := q_bd hf
        refine q_kV (M2 := m_X1_setLead) (As := [.int v1, .int v2, .int (-1 : Int32)]) (b := 458) (v2 := none) ok_X1_untieFromGone ok_X1_setLead cv_X1_setLead (ct_X1_setLead_458 (d := 2) (Nat.le_refl _) hr6) rfl rfl (Or.inl rfl) rfl rfl rfl rfl (Nat.le_trans (Nat.le_of_ble_eq_true rfl) hd) hk hn (Nat.le_of_ble_eq_true rfl) (fun x hx => absurd hx List.not_mem_nil) (q_nmL0 _) (q_nmS0 _) rfl (pos' := 24) (st' := []) (lI' := [(464, r6)]) (lE' := []) rfl rfl rfl rfl ?_
        refine q_blk 2 [] (c' := q_kc (t, r, m, z, N, ext, rx, L) I E 7 [some (.ref 458), some (.int v1), some (.int (v2 + 1))] [] [(464, r6)] []) ok_X1_untieFromGone rfl q_cn ?_
        exact ih (I := q_ws I [(464, r6)]) (E := q_ws E []) hf (q_Jmrg rfl rfl hK0)
set_option maxHeartbeats 4000000 in
theorem lp_X1_untieFromGone_L2_458 {g : q_G} {d mc ms : Nat} {h0 : q_H} {Q : (Option Value ⊕ String) → q_H → Prop} {k n : Nat} {t : Nat} {r : Nat} {m : Nat} {z : Nat} {N : Nat} {ext : Nat → q_Sh} {rx : Nat → Nat → Option Nat} {L : Nat → Nat → Int64} (hd : 3 ≤ d) (hk : k ≤ mc) (hn : n ≤ ms)  : ∀ (fu : Nat) {I : Nat → Nat → Int32} {E : Nat → Nat → Option Nat} {v1 : Int32} {r0 : (Nat → Int32)} (hf : f_X1_untieFromGone_L2 (I 459) (I 463) fu (I 464) v1 = some r0) (hK0 : q_J g m_X1_untieFromGone d mc ms h0 [] Q k n (q_kc (t, r, m, z, N, ext, rx, L) I E 28 [none, none, none] [] [(464, r0)] [])), q_J g m_X1_untieFromGone d mc ms h0 [] Q k n (2, [some (.ref 458), some (.int v1), none], [], q_hp (t, r, m, z, N, ext, rx, L) I E) := by
  intro fu
  induction fu with
  | zero =>
    intro I E v1 r0 hf hK0
    rw [f_X1_untieFromGone_L2] at hf
    cases hf
  | succ fu ih =>
    intro I E v1 r0 hf hK0
    rw [f_X1_untieFromGone_L2] at hf
    change q_J g m_X1_untieFromGone d mc ms h0 [] Q k n (q_kc (t, r, m, z, N, ext, rx, L) I E 2 [some (.ref 458), some (.int v1), none] [] [] [])
    refine q_blf 2 [] (a := q_kc (t, r, m, z, N, ext, rx, L) I E 28 [some (.ref 458), some (.int v1), none] [] [] []) (b := q_kc (t, r, m, z, N, ext, rx, L) I E 5 [some (.ref 458), some (.int v1), none] [] [] []) (P := (128 : Int32) ≤ v1) ok_X1_untieFromGone rfl q_cn (fun h7 => ?_) (fun h7 => ?_)
    · have hf := q_ip h7 hf
      refine q_less (ls' := [none, none, none]) (q_sb1 (q_sb1 (q_sb1 q_sb0))) ?_
      cases hf
      exact q_Jpad [464] [] rfl rfl hK0
    · have hf := q_in h7 hf
      refine q_blk 2 [] (c' := q_kc (t, r, m, z, N, ext, rx, L) I E 7 [some (.ref 458), some (.int v1), some (.int (0 : Int32))] [] [] []) ok_X1_untieFromGone rfl q_cn ?_
      obtain ⟨r8, hr8, hf⟩ := q_bd hf
      refine lp_X1_untieFromGone_L7_458 (I := q_ws I []) (E := q_ws E []) hd hk hn 4096 hr8 ?_
      refine q_Jmrg (lI' := [(464, r8)]) (lE' := []) rfl rfl ?_
      refine q_blk 2 [] (c' := q_kc (t, r, m, z, N, ext, rx, L) I E 2 [some (.ref 458), some (.int (v1 + 1)), none] [] [(464, r8)] []) ok_X1_untieFromGone rfl q_cn ?_
      exact ih (I := q_ws I [(464, r8)]) (E := q_ws E []) hf (q_Jmrg rfl rfl hK0)
set_option maxHeartbeats 4000000 in
theorem ct_X1_untieFromGone_458 {g : q_G} {t : Nat} {r : Nat} {m : Nat} {z : Nat} {N : Nat} {ext : Nat → q_Sh} {rx : Nat → Nat → Option Nat} {L : Nat → Nat → Int64} {d : Nat} (hd : 3 ≤ d)  {I : Nat → Nat → Int32} {E : Nat → Nat → Option Nat} {r0 : (Nat → Int32)} (hf : f_X1_untieFromGone (I 459) (I 463) (I 464) = some r0) : q_Ct g m_X1_untieFromGone d 0 0 [] [.ref 458] (q_hp (t, r, m, z, N, ext, rx, L) I E) (fun o h' => o = .inl none ∧ h' = q_hp (t, r, m, z, N, ext, rx, L) (q_ws I [(464, r0)]) (q_ws E [])) := by
  rw [f_X1_untieFromGone] at hf
  refine q_Ct_of ok_X1_untieFromGone (Nat.le_of_ble_eq_true rfl) ?_ _ rfl rfl
  change q_J g m_X1_untieFromGone d 0 0 _ [] _ 0 0 (q_kc (t, r, m, z, N, ext, rx, L) I E 0 [some (.ref 458), none, none] [] [] [])
  refine q_blk 2 [] (c' := q_kc (t, r, m, z, N, ext, rx, L) I E 2 [some (.ref 458), some (.int (0 : Int32)), none] [] [] []) ok_X1_untieFromGone rfl q_cn ?_
  obtain ⟨r9, hr9, hf⟩ := q_bd hf
  refine lp_X1_untieFromGone_L2_458 (I := q_ws I []) (E := q_ws E []) hd (Nat.le_of_ble_eq_true rfl) (Nat.le_of_ble_eq_true rfl) 4096 hr9 ?_
  refine q_Jmrg (lI' := [(464, r9)]) (lE' := []) rfl rfl ?_
  cases hf
  exact q_krv ok_X1_untieFromGone rfl rfl (Nat.le_of_ble_eq_true rfl) (Nat.le_of_ble_eq_true rfl) ⟨rfl, q_hpe (q_fin [464] rfl) (q_fin [] rfl)⟩
set_option maxHeartbeats 4000000 in
theorem lp_X2_sweep_L6_457 {g : q_G} {d mc ms : Nat} {h0 : q_H} {Q : (Option Value ⊕ String) → q_H → Prop} {k n : Nat} {t : Nat} {r : Nat} {m : Nat} {z : Nat} {N : Nat} {ext : Nat → q_Sh} {rx : Nat → Nat → Option Nat} {L : Nat → Nat → Int64} (hd : 5 ≤ d) (hk : k ≤ mc) (hn : n ≤ ms)  : ∀ (fu : Nat) {I : Nat → Nat → Int32} {E : Nat → Nat → Option Nat} {v1 : Int32} {v2 : Int32} {r0 : Int32 × (Nat → Int32) × (Nat → Int32) × (Nat → Int32)} (hf : f_X2_sweep_L6 (I 402) (I 460) (I 461) (I 469) fu (I 459) (I 465) (I 466) v1 v2 = some r0) (hK0 : q_J g m_X2_sweep d mc ms h0 [] Q k n (q_kc (t, r, m, z, N, ext, rx, L) I E 39 [some (.ref 457), some (.int r0.1), none, none] [] [(459, r0.2.1), (465, r0.2.2.1), (466, r0.2.2.2)] [])), q_J g m_X2_sweep d mc ms h0 [] Q k n (6, [some (.ref 457), some (.int v1), some (.int v2), none], [], q_hp (t, r, m, z, N, ext, rx, L) I E) := by
  intro fu
  induction fu with
  | zero =>
    intro I E v1 v2 r0 hf hK0
    rw [f_X2_sweep_L6] at hf
    cases hf
  | succ fu ih =>
    intro I E v1 v2 r0 hf hK0
    rw [f_X2_sweep_L6] at hf
    change q_J g m_X2_sweep d mc ms h0 [] Q k n (q_kc (t, r, m, z, N, ext, rx, L) I E 6 [some (.ref 457), some (.int v1), some (.int v2), none] [] [] [])
    refine q_blf 4 [] (a := q_kc (t, r, m, z, N, ext, rx, L) I E 39 [some (.ref 457), some (.int v1), some (.int v2), none] [] [] []) (b := q_kc (t, r, m, z, N, ext, rx, L) I E 11 [some (.ref 457), some (.int v1), some (.int v2), none] [] [] []) (P := ((I 402) 1) ≤ v2) ok_X2_sweep rfl q_cn (fun h1 => ?_) (fun h1 => ?_)
    · have hf := q_ip h1 hf
      refine q_less (ls' := [some (.ref 457), some (.int v1), none, none]) (q_sb2 (q_sb2 (q_sb1 (q_sb1 q_sb0)))) ?_
      cases hf
      exact q_Jpad [459, 465, 466] [] rfl rfl hK0
    · have hf := q_in h1 hf
      refine q_blk 2 [] (c' := q_kc (t, r, m, z, N, ext, rx, L) I E 13 [some (.ref 457), some (.int v1), some (.int v2), none] [.int v2, .ref 457] [] []) ok_X2_sweep rfl q_cn ?_
      obtain ⟨r2, hr2, hf⟩ := q_bd hf
      refine q_kV (M2 := m_X2_loftBaleFrom) (As := [.int v2]) (b := 457) (v2 := some (.int r2)) ok_X2_sweep ok_X2_loftBaleFrom cv_X2_loftBaleFrom (ct_X2_loftBaleFrom_457 (d := 2) (Nat.le_refl _) hr2) rfl rfl (Or.inl rfl) rfl rfl rfl rfl (Nat.le_trans (Nat.le_of_ble_eq_true rfl) hd) hk hn (Nat.le_of_ble_eq_true rfl) (fun x hx => absurd hx List.not_mem_nil) (q_nmL0 _) (q_nmS0 _) rfl (pos' := 14) (st' := [.int r2]) (lI' := []) (lE' := []) rfl rfl rfl rfl ?_
      refine q_blf 3 [] (a := q_kc (t, r, m, z, N, ext, rx, L) I E 37 [some (.ref 457), some (.int v1), some (.int v2), some (.int r2)] [] [] []) (b := q_kc (t, r, m, z, N, ext, rx, L) I E 18 [some (.ref 457), some (.int v1), some (.int v2), some (.int r2)] [] [] []) (P := r2 = (-1 : Int32)) ok_X2_sweep rfl q_cn (fun h3 => ?_) (fun h3 => ?_)
      · have hf := q_ip h3 hf
        refine q_blk 2 [] (c' := q_kc (t, r, m, z, N, ext, rx, L) I E 6 [some (.ref 457), some (.int v1), some (.int (v2 + 1)), some (.int r2)] [] [] []) ok_X2_sweep rfl q_cn ?_
        refine q_less (ls' := [some (.ref 457), some (.int v1), some (.int (v2 + 1)), none]) (q_sb2 (q_sb2 (q_sb2 (q_sb1 q_sb0)))) ?_
        exact ih (I := q_ws I []) (E := q_ws E []) hf (q_Jmrg rfl rfl hK0)
      · have hf := q_in h3 hf
        refine q_blk 3 [] (c' := q_kc (t, r, m, z, N, ext, rx, L) I E 21 [some (.ref 457), some (.int v1), some (.int v2), some (.int r2)] [.int r2, .ref 467] [] []) ok_X2_sweep rfl q_cn ?_
        obtain ⟨r4, hr4, hf⟩ := q_bd hf
        refine q_kV (M2 := m_X4_has) (As := [.int r2]) (b := 467) (v2 := some (.int (q_bz r4))) ok_X2_sweep ok_X4_has cv_X4_has (ct_X4_has_467 (d := 1) (Nat.le_refl _) hr4) rfl rfl (Or.inl rfl) rfl rfl rfl rfl (Nat.le_trans (Nat.le_of_ble_eq_true rfl) hd) hk hn (Nat.le_of_ble_eq_true rfl) (fun x hx => absurd hx List.not_mem_nil) (q_nmL0 _) (q_nmS0 _) rfl (pos' := 22) (st' := [.int (q_bz r4)]) (lI' := []) (lE' := []) rfl rfl rfl rfl ?_
        refine q_blf 0 [] (a := q_kc (t, r, m, z, N, ext, rx, L) I E 37 [some (.ref 457), some (.int v1), some (.int v2), some (.int r2)] [] [] []) (b := q_kc (t, r, m, z, N, ext, rx, L) I E 23 [some (.ref 457), some (.int v1), some (.int v2), some (.int r2)] [] [] []) (P := ¬ (q_bz r4) = 0) ok_X2_sweep rfl q_cn (fun h5 => ?_) (fun h5 => ?_)
        · have hf := q_ip h5 hf
          refine q_blk 2 [] (c' := q_kc (t, r, m, z, N, ext, rx, L) I E 6 [some (.ref 457), some (.int v1), some (.int (v2 + 1)), some (.int r2)] [] [] []) ok_X2_sweep rfl q_cn ?_
          refine q_less (ls' := [some (.ref 457), some (.int v1), some (.int (v2 + 1)), none]) (q_sb2 (q_sb2 (q_sb2 (q_sb1 q_sb0)))) ?_
          exact ih (I := q_ws I []) (E := q_ws E []) hf (q_Jmrg rfl rfl hK0)
        · have hf := q_in h5 hf
          refine q_blk 7 [] (c' := q_kc (t, r, m, z, N, ext, rx, L) I E 30 [some (.ref 457), some (.int v1), some (.int v2), some (.int r2)] [.int r2, .ref 458, .int v2, .int (-1 : Int32), .ref 465] [] []) ok_X2_sweep rfl q_cn ?_
          obtain ⟨r6, hr6, hf⟩ := q_bd hf
          refine q_kV (M2 := m_X1_size) (As := [.int r2]) (b := 458) (v2 := some (.int r6)) ok_X2_sweep ok_X1_size cv_X1_size (ct_X1_size_458 (d := 1) (Nat.le_refl _) hr6) rfl rfl (Or.inl rfl) rfl rfl rfl rfl (Nat.le_trans (Nat.le_of_ble_eq_true rfl) hd) hk hn (Nat.le_of_ble_eq_true rfl) (fun x hx => absurd hx List.not_mem_nil) (q_nmL0 _) (q_nmS0 _) rfl (pos' := 31) (st' := [.int r6, .int v2, .int (-1 : Int32), .ref 465]) (lI' := []) (lE' := []) rfl rfl rfl rfl ?_
          obtain ⟨r7, hr7, hf⟩ := q_bd hf
          refine q_kV (M2 := m_X5_lay) (As := [.int (-1 : Int32), .int v2, .int r6]) (b := 465) (v2 := none) ok_X2_sweep ok_X5_lay cv_X5_lay (ct_X5_lay_465 (d := 1) (Nat.le_refl _) hr7) rfl rfl (Or.inl rfl) rfl rfl rfl rfl (Nat.le_trans (Nat.le_of_ble_eq_true rfl) hd) hk hn (Nat.le_of_ble_eq_true rfl) (fun x hx => absurd hx List.not_mem_nil) (q_nmL0 _) (q_nmS0 _) rfl (pos' := 32) (st' := []) (lI' := [(465, r7.1), (466, r7.2)]) (lE' := []) rfl rfl rfl rfl ?_
          refine q_blk 3 [] (c' := q_kc (t, r, m, z, N, ext, rx, L) I E 35 [some (.ref 457), some (.int v1), some (.int v2), some (.int r2)] [.int r2, .ref 458] [(465, r7.1), (466, r7.2)] []) ok_X2_sweep rfl q_cn ?_
          obtain ⟨r8, hr8, hf⟩ := q_bd hf
          refine q_kV (M2 := m_X1_remove) (As := [.int r2]) (b := 458) (v2 := none) ok_X2_sweep ok_X1_remove cv_X1_remove (ct_X1_remove_458 (d := 1) (Nat.le_refl _) hr8) rfl rfl (Or.inl rfl) rfl rfl rfl rfl (Nat.le_trans (Nat.le_of_ble_eq_true rfl) hd) hk hn (Nat.le_of_ble_eq_true rfl) (fun x hx => absurd hx List.not_mem_nil) (q_nmL0 _) (q_nmS0 _) rfl (pos' := 36) (st' := []) (lI' := [(459, r8), (465, r7.1), (466, r7.2)]) (lE' := []) rfl rfl rfl rfl ?_
          refine q_blk 3 [] (c' := q_kc (t, r, m, z, N, ext, rx, L) I E 6 [some (.ref 457), some (.int (v1 + 1)), some (.int (v2 + 1)), some (.int r2)] [] [(459, r8), (465, r7.1), (466, r7.2)] []) ok_X2_sweep rfl q_cn ?_
          refine q_less (ls' := [some (.ref 457), some (.int (v1 + 1)), some (.int (v2 + 1)), none]) (q_sb2 (q_sb2 (q_sb2 (q_sb1 q_sb0)))) ?_
          exact ih (I := q_ws I [(459, r8), (465, r7.1), (466, r7.2)]) (E := q_ws E []) hf (q_Jmrg rfl rfl hK0)
set_option maxHeartbeats 4000000 in
theorem ct_X2_sweep_457 {g : q_G} {t : Nat} {r : Nat} {m : Nat} {z : Nat} {N : Nat} {ext : Nat → q_Sh} {rx : Nat → Nat → Option Nat} {L : Nat → Nat → Int64} {d : Nat} (hd : 5 ≤ d)  {I : Nat → Nat → Int32} {E : Nat → Nat → Option Nat} {r0 : Int32 × (Nat → Int32) × (Nat → Int32) × (Nat → Int32) × (Nat → Int32) × (Nat → Int32) × (Nat → Int32) × (Nat → Int32) × (Nat → Int32)} (hf : f_X2_sweep (I 402) (I 457) (I 459) (I 460) (I 461) (I 463) (I 464) (I 465) (I 466) (I 467) (I 468) (I 469) (I 470) = some r0) : q_Ct g m_X2_sweep d 0 0 [] [.ref 457] (q_hp (t, r, m, z, N, ext, rx, L) I E) (fun o h' => o = .inl (some (.int r0.1)) ∧ h' = q_hp (t, r, m, z, N, ext, rx, L) (q_ws I [(457, r0.2.1), (459, r0.2.2.1), (464, r0.2.2.2.1), (465, r0.2.2.2.2.1), (466, r0.2.2.2.2.2.1), (467, r0.2.2.2.2.2.2.1), (468, r0.2.2.2.2.2.2.2.1), (469, r0.2.2.2.2.2.2.2.2)]) (q_ws E [])) := by
  rw [f_X2_sweep] at hf
  refine q_Ct_of ok_X2_sweep (Nat.le_of_ble_eq_true rfl) ?_ _ rfl rfl
  change q_J g m_X2_sweep d 0 0 _ [] _ 0 0 (q_kc (t, r, m, z, N, ext, rx, L) I E 0 [some (.ref 457), none, none, none] [] [] [])
  refine q_blk 1 [] (c' := q_kc (t, r, m, z, N, ext, rx, L) I E 1 [some (.ref 457), none, none, none] [.ref 457] [] []) ok_X2_sweep rfl q_cn ?_
  obtain ⟨r9, hr9, hf⟩ := q_bd hf
  refine q_kV (M2 := m_X2_findReached) (As := []) (b := 457) (v2 := none) ok_X2_sweep ok_X2_findReached cv_X2_findReached (ct_X2_findReached_457 (d := 4) (Nat.le_refl _) hr9) rfl rfl (Or.inl rfl) rfl rfl rfl rfl (Nat.le_trans (Nat.le_of_ble_eq_true rfl) hd) (Nat.le_of_ble_eq_true rfl) (Nat.le_of_ble_eq_true rfl) (Nat.le_of_ble_eq_true rfl) (fun x hx => absurd hx List.not_mem_nil) (q_nmL0 _) (q_nmS0 _) rfl (pos' := 2) (st' := []) (lI' := [(467, r9.1), (468, r9.2.1), (469, r9.2.2)]) (lE' := []) rfl rfl rfl rfl ?_
  refine q_blk 4 [] (c' := q_kc (t, r, m, z, N, ext, rx, L) I E 6 [some (.ref 457), some (.int (0 : Int32)), some (.int (0 : Int32)), none] [] [(467, r9.1), (468, r9.2.1), (469, r9.2.2)] []) ok_X2_sweep rfl q_cn ?_
  obtain ⟨r10, hr10, hf⟩ := q_bd hf
  refine lp_X2_sweep_L6_457 (I := q_ws I [(467, r9.1), (468, r9.2.1), (469, r9.2.2)]) (E := q_ws E []) hd (Nat.le_of_ble_eq_true rfl) (Nat.le_of_ble_eq_true rfl) 4096 hr10 ?_
  refine q_Jmrg (lI' := [(459, r10.2.1), (465, r10.2.2.1), (466, r10.2.2.2), (467, r9.1), (468, r9.2.1), (469, r9.2.2)]) (lE' := []) rfl rfl ?_
  refine q_blk 2 [] (c' := q_kc (t, r, m, z, N, ext, rx, L) I E 41 [some (.ref 457), some (.int r10.1), none, none] [.ref 458] [(459, r10.2.1), (465, r10.2.2.1), (466, r10.2.2.2), (467, r9.1), (468, r9.2.1), (469, r9.2.2)] []) ok_X2_sweep rfl q_cn ?_
  obtain ⟨r11, hr11, hf⟩ := q_bd hf
  refine q_kV (M2 := m_X1_untieFromGone) (As := []) (b := 458) (v2 := none) ok_X2_sweep ok_X1_untieFromGone cv_X1_untieFromGone (ct_X1_untieFromGone_458 (d := 3) (Nat.le_refl _) hr11) rfl rfl (Or.inl rfl) rfl rfl rfl rfl (Nat.le_trans (Nat.le_of_ble_eq_true rfl) hd) (Nat.le_of_ble_eq_true rfl) (Nat.le_of_ble_eq_true rfl) (Nat.le_of_ble_eq_true rfl) (fun x hx => absurd hx List.not_mem_nil) (q_nmL0 _) (q_nmS0 _) rfl (pos' := 42) (st' := []) (lI' := [(459, r10.2.1), (464, r11), (465, r10.2.2.1), (466, r10.2.2.2), (467, r9.1), (468, r9.2.1), (469, r9.2.2)]) (lE' := []) rfl rfl rfl rfl ?_
  refine q_blk 7 [] (c' := q_kc (t, r, m, z, N, ext, rx, L) I E 49 [some (.ref 457), some (.int r10.1), none, none] [.int r10.1] [(457, (q_up (I 457) 14 (((I 457) 14) + r10.1))), (459, r10.2.1), (464, r11), (465, r10.2.2.1), (466, r10.2.2.2), (467, r9.1), (468, r9.2.1), (469, r9.2.2)] []) ok_X2_sweep rfl q_cn ?_
  cases hf
  exact q_kri ok_X2_sweep rfl rfl rfl (Nat.le_of_ble_eq_true rfl) (Nat.le_of_ble_eq_true rfl) ⟨rfl, q_hpe (q_fin [457, 459, 464, 465, 466, 467, 468, 469] rfl) (q_fin [] rfl)⟩
