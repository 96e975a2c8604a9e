set_option maxHeartbeats 4000000 in
theorem ct_X14_pushed_512 {g : q_G} {t : Nat} {r : Nat} {m : Nat} {z : Nat} {N : Nat} {ext : Nat → q_Sh} {rx : Nat → Nat → Option Nat} {L : Nat → Nat → Int64} {d : Nat} (hd : 3 ≤ d)  {I : Nat → Nat → Int32} {E : Nat → Nat → Option Nat} {x1 : Int32} {x2 : Int32} {r0 : Int32} (hf : f_X14_pushed (I 499) (I 507) (I 512) (I 513) (I 514) (I 516) (I 518) x1 x2 = some r0) : q_Ct g m_X14_pushed d 0 0 [] [.ref 512, .int x1, .int x2] (q_hp (t, r, m, z, N, ext, rx, L) I E) (fun o h' => o = .inl (some (.int r0)) ∧ h' = q_hp (t, r, m, z, N, ext, rx, L) (q_ws I []) (q_ws E [])) := by
  rw [f_X14_pushed] at hf
  refine q_Ct_of ok_X14_pushed (Nat.le_of_ble_eq_true rfl) ?_ _ rfl rfl
  change q_J g m_X14_pushed d 0 0 _ [] _ 0 0 (q_kc (t, r, m, z, N, ext, rx, L) I E 0 [some (.ref 512), some (.int x1), some (.int x2), none] [] [] [])
  obtain ⟨j1, hj1, hf⟩ := q_bd hf
  refine q_blk 8 [j1] (c' := q_kc (t, r, m, z, N, ext, rx, L) I E 8 [some (.ref 512), some (.int x1), some (.int x2), some (.int ((I 507) j1))] [.int x1] [] []) ok_X14_pushed rfl (q_cc hj1 q_cn) ?_
  refine q_ksw [31, 99, 99, 99, 99, 99, 99, 99, 99, 99, 99, 9, 12, 16, 25, 28, 47, 63, 73] ok_X14_pushed rfl (dp := 99) rfl (fun ix t9 ht9 hx9 => ?_) (fun hx9 => ?_) (by decide) (by decide)
  · match ix, ht9 with
    | 0, ht9 =>
      have hx9 : x1 = 5 := hx9
      cases ht9
      have hf := q_ip hx9 hf
      obtain ⟨j2, hj2, hf⟩ := q_bd hf
      refine q_blf 5 [j2] (a := q_kc (t, r, m, z, N, ext, rx, L) I E 39 [some (.ref 512), some (.int x1), some (.int x2), some (.int ((I 507) j1))] [] [] []) (b := q_kc (t, r, m, z, N, ext, rx, L) I E 37 [some (.ref 512), some (.int x1), some (.int x2), some (.int ((I 507) j1))] [] [] []) (P := ¬ ((I 513) j2) = (-1 : Int32)) ok_X14_pushed rfl (q_cc hj2 q_cn) (fun h3 => ?_) (fun h3 => ?_)
      · have hf := q_ip h3 hf
        obtain ⟨j4, hj4, hf⟩ := q_bd hf
        obtain ⟨j5, hj5, hf⟩ := q_bd hf
        refine q_blk 7 [j4, j5] (c' := q_kc (t, r, m, z, N, ext, rx, L) I E 46 [some (.ref 512), some (.int x1), some (.int x2), some (.int ((I 507) j1))] [.int ((I 516) j5)] [] []) ok_X14_pushed rfl (q_cc hj5 (q_cc hj4 q_cn)) ?_
        cases hf
        exact q_kri ok_X14_pushed rfl rfl rfl (Nat.le_of_ble_eq_true rfl) (Nat.le_of_ble_eq_true rfl) ⟨rfl, q_hpe (q_fin [] rfl) (q_fin [] rfl)⟩
      · have hf := q_in h3 hf
        refine q_blk 2 [] (c' := q_kc (t, r, m, z, N, ext, rx, L) I E 46 [some (.ref 512), some (.int x1), some (.int x2), some (.int ((I 507) j1))] [.int (0 : Int32)] [] []) ok_X14_pushed rfl q_cn ?_
        cases hf
        exact q_kri ok_X14_pushed rfl rfl rfl (Nat.le_of_ble_eq_true rfl) (Nat.le_of_ble_eq_true rfl) ⟨rfl, q_hpe (q_fin [] rfl) (q_fin [] rfl)⟩
    | 1, ht9 =>
      have hx9 : x1 = 6 := hx9
      cases ht9
      have hf := q_in (fun hz9 => absurd (hx9.symm.trans hz9) (by decide)) hf
      have hf := q_ip hx9 hf
      refine q_blk 1 [] (c' := q_kc (t, r, m, z, N, ext, rx, L) I E 100 [some (.ref 512), some (.int x1), some (.int x2), some (.int ((I 507) j1))] [.int ((I 507) j1)] [] []) ok_X14_pushed rfl q_cn ?_
      cases hf
      exact q_kri ok_X14_pushed rfl rfl rfl (Nat.le_of_ble_eq_true rfl) (Nat.le_of_ble_eq_true rfl) ⟨rfl, q_hpe (q_fin [] rfl) (q_fin [] rfl)⟩
    | 2, ht9 =>
      have hx9 : x1 = 7 := hx9
      cases ht9
      have hf := q_in (fun hz9 => absurd (hx9.symm.trans hz9) (by decide)) hf
      have hf := q_in (fun hz9 => absurd (hx9.symm.trans hz9) (by decide)) hf
      have hf := q_ip hx9 hf
      refine q_blk 1 [] (c' := q_kc (t, r, m, z, N, ext, rx, L) I E 100 [some (.ref 512), some (.int x1), some (.int x2), some (.int ((I 507) j1))] [.int ((I 507) j1)] [] []) ok_X14_pushed rfl q_cn ?_
      cases hf
      exact q_kri ok_X14_pushed rfl rfl rfl (Nat.le_of_ble_eq_true rfl) (Nat.le_of_ble_eq_true rfl) ⟨rfl, q_hpe (q_fin [] rfl) (q_fin [] rfl)⟩
    | 3, ht9 =>
      have hx9 : x1 = 8 := hx9
      cases ht9
      have hf := q_in (fun hz9 => absurd (hx9.symm.trans hz9) (by decide)) hf
      have hf := q_in (fun hz9 => absurd (hx9.symm.trans hz9) (by decide)) hf
      have hf := q_in (fun hz9 => absurd (hx9.symm.trans hz9) (by decide)) hf
      have hf := q_ip hx9 hf
      refine q_blk 1 [] (c' := q_kc (t, r, m, z, N, ext, rx, L) I E 100 [some (.ref 512), some (.int x1), some (.int x2), some (.int ((I 507) j1))] [.int ((I 507) j1)] [] []) ok_X14_pushed rfl q_cn ?_
      cases hf
      exact q_kri ok_X14_pushed rfl rfl rfl (Nat.le_of_ble_eq_true rfl) (Nat.le_of_ble_eq_true rfl) ⟨rfl, q_hpe (q_fin [] rfl) (q_fin [] rfl)⟩
    | 4, ht9 =>
      have hx9 : x1 = 9 := hx9
      cases ht9
      have hf := q_in (fun hz9 => absurd (hx9.symm.trans hz9) (by decide)) hf
      have hf := q_in (fun hz9 => absurd (hx9.symm.trans hz9) (by decide)) hf
      have hf := q_in (fun hz9 => absurd (hx9.symm.trans hz9) (by decide)) hf
      have hf := q_in (fun hz9 => absurd (hx9.symm.trans hz9) (by decide)) hf
      have hf := q_ip hx9 hf
      refine q_blk 1 [] (c' := q_kc (t, r, m, z, N, ext, rx, L) I E 100 [some (.ref 512), some (.int x1), some (.int x2), some (.int ((I 507) j1))] [.int ((I 507) j1)] [] []) ok_X14_pushed rfl q_cn ?_
      cases hf
      exact q_kri ok_X14_pushed rfl rfl rfl (Nat.le_of_ble_eq_true rfl) (Nat.le_of_ble_eq_true rfl) ⟨rfl, q_hpe (q_fin [] rfl) (q_fin [] rfl)⟩
    | 5, ht9 =>
      have hx9 : x1 = 10 := hx9
      cases ht9
      have hf := q_in (fun hz9 => absurd (hx9.symm.trans hz9) (by decide)) hf
      have hf := q_in (fun hz9 => absurd (hx9.symm.trans hz9) (by decide)) hf
      have hf := q_in (fun hz9 => absurd (hx9.symm.trans hz9) (by decide)) hf
      have hf := q_in (fun hz9 => absurd (hx9.symm.trans hz9) (by decide)) hf
      have hf := q_in (fun hz9 => absurd (hx9.symm.trans hz9) (by decide)) hf
      have hf := q_ip hx9 hf
      refine q_blk 1 [] (c' := q_kc (t, r, m, z, N, ext, rx, L) I E 100 [some (.ref 512), some (.int x1), some (.int x2), some (.int ((I 507) j1))] [.int ((I 507) j1)] [] []) ok_X14_pushed rfl q_cn ?_
      cases hf
      exact q_kri ok_X14_pushed rfl rfl rfl (Nat.le_of_ble_eq_true rfl) (Nat.le_of_ble_eq_true rfl) ⟨rfl, q_hpe (q_fin [] rfl) (q_fin [] rfl)⟩
    | 6, ht9 =>
      have hx9 : x1 = 11 := hx9
      cases ht9
      have hf := q_in (fun hz9 => absurd (hx9.symm.trans hz9) (by decide)) hf
      have hf := q_in (fun hz9 => absurd (hx9.symm.trans hz9) (by decide)) hf
      have hf := q_in (fun hz9 => absurd (hx9.symm.trans hz9) (by decide)) hf
      have hf := q_in (fun hz9 => absurd (hx9.symm.trans hz9) (by decide)) hf
      have hf := q_in (fun hz9 => absurd (hx9.symm.trans hz9) (by decide)) hf
      have hf := q_in (fun hz9 => absurd (hx9.symm.trans hz9) (by decide)) hf
      have hf := q_ip hx9 hf
      refine q_blk 1 [] (c' := q_kc (t, r, m, z, N, ext, rx, L) I E 100 [some (.ref 512), some (.int x1), some (.int x2), some (.int ((I 507) j1))] [.int ((I 507) j1)] [] []) ok_X14_pushed rfl q_cn ?_
      cases hf
      exact q_kri ok_X14_pushed rfl rfl rfl (Nat.le_of_ble_eq_true rfl) (Nat.le_of_ble_eq_true rfl) ⟨rfl, q_hpe (q_fin [] rfl) (q_fin [] rfl)⟩
    | 7, ht9 =>
      have hx9 : x1 = 12 := hx9
      cases ht9
      have hf := q_in (fun hz9 => absurd (hx9.symm.trans hz9) (by decide)) hf
      have hf := q_in (fun hz9 => absurd (hx9.symm.trans hz9) (by decide)) hf
      have hf := q_in (fun hz9 => absurd (hx9.symm.trans hz9) (by decide)) hf
      have hf := q_in (fun hz9 => absurd (hx9.symm.trans hz9) (by decide)) hf
      have hf := q_in (fun hz9 => absurd (hx9.symm.trans hz9) (by decide)) hf
      have hf := q_in (fun hz9 => absurd (hx9.symm.trans hz9) (by decide)) hf
      have hf := q_in (fun hz9 => absurd (hx9.symm.trans hz9) (by decide)) hf
      have hf := q_ip hx9 hf
      refine q_blk 1 [] (c' := q_kc (t, r, m, z, N, ext, rx, L) I E 100 [some (.ref 512), some (.int x1), some (.int x2), some (.int ((I 507) j1))] [.int ((I 507) j1)] [] []) ok_X14_pushed rfl q_cn ?_
      cases hf
      exact q_kri ok_X14_pushed rfl rfl rfl (Nat.le_of_ble_eq_true rfl) (Nat.le_of_ble_eq_true rfl) ⟨rfl, q_hpe (q_fin [] rfl) (q_fin [] rfl)⟩
    | 8, ht9 =>
      have hx9 : x1 = 13 := hx9
      cases ht9
      have hf := q_in (fun hz9 => absurd (hx9.symm.trans hz9) (by decide)) hf
      have hf := q_in (fun hz9 => absurd (hx9.symm.trans hz9) (by decide)) hf
      have hf := q_in (fun hz9 => absurd (hx9.symm.trans hz9) (by decide)) hf
      have hf := q_in (fun hz9 => absurd (hx9.symm.trans hz9) (by decide)) hf
      have hf := q_in (fun hz9 => absurd (hx9.symm.trans hz9) (by decide)) hf
      have hf := q_in (fun hz9 => absurd (hx9.symm.trans hz9) (by decide)) hf
      have hf := q_in (fun hz9 => absurd (hx9.symm.trans hz9) (by decide)) hf
      have hf := q_in (fun hz9 => absurd (hx9.symm.trans hz9) (by decide)) hf
      have hf := q_ip hx9 hf
      refine q_blk 1 [] (c' := q_kc (t, r, m, z, N, ext, rx, L) I E 100 [some (.ref 512), some (.int x1), some (.int x2), some (.int ((I 507) j1))] [.int ((I 507) j1)] [] []) ok_X14_pushed rfl q_cn ?_
      cases hf
      exact q_kri ok_X14_pushed rfl rfl rfl (Nat.le_of_ble_eq_true rfl) (Nat.le_of_ble_eq_true rfl) ⟨rfl, q_hpe (q_fin [] rfl) (q_fin [] rfl)⟩
    | 9, ht9 =>
      have hx9 : x1 = 14 := hx9
      cases ht9
      have hf := q_in (fun hz9 => absurd (hx9.symm.trans hz9) (by decide)) hf
      have hf := q_in (fun hz9 => absurd (hx9.symm.trans hz9) (by decide)) hf
      have hf := q_in (fun hz9 => absurd (hx9.symm.trans hz9) (by decide)) hf
      have hf := q_in (fun hz9 => absurd (hx9.symm.trans hz9) (by decide)) hf
      have hf := q_in (fun hz9 => absurd (hx9.symm.trans hz9) (by decide)) hf
      have hf := q_in (fun hz9 => absurd (hx9.symm.trans hz9) (by decide)) hf
      have hf := q_in (fun hz9 => absurd (hx9.symm.trans hz9) (by decide)) hf
      have hf := q_in (fun hz9 => absurd (hx9.symm.trans hz9) (by decide)) hf
      have hf := q_in (fun hz9 => absurd (hx9.symm.trans hz9) (by decide)) hf
      have hf := q_ip hx9 hf
      refine q_blk 1 [] (c' := q_kc (t, r, m, z, N, ext, rx, L) I E 100 [some (.ref 512), some (.int x1), some (.int x2), some (.int ((I 507) j1))] [.int ((I 507) j1)] [] []) ok_X14_pushed rfl q_cn ?_
      cases hf
      exact q_kri ok_X14_pushed rfl rfl rfl (Nat.le_of_ble_eq_true rfl) (Nat.le_of_ble_eq_true rfl) ⟨rfl, q_hpe (q_fin [] rfl) (q_fin [] rfl)⟩
    | 10, ht9 =>
      have hx9 : x1 = 15 := hx9
      cases ht9
      have hf := q_in (fun hz9 => absurd (hx9.symm.trans hz9) (by decide)) hf
      have hf := q_in (fun hz9 => absurd (hx9.symm.trans hz9) (by decide)) hf
      have hf := q_in (fun hz9 => absurd (hx9.symm.trans hz9) (by decide)) hf
      have hf := q_in (fun hz9 => absurd (hx9.symm.trans hz9) (by decide)) hf
      have hf := q_in (fun hz9 => absurd (hx9.symm.trans hz9) (by decide)) hf
      have hf := q_in (fun hz9 => absurd (hx9.symm.trans hz9) (by decide)) hf
      have hf := q_in (fun hz9 => absurd (hx9.symm.trans hz9) (by decide)) hf
      have hf := q_in (fun hz9 => absurd (hx9.symm.trans hz9) (by decide)) hf
      have hf := q_in (fun hz9 => absurd (hx9.symm.trans hz9) (by decide)) hf
      have hf := q_in (fun hz9 => absurd (hx9.symm.trans hz9) (by decide)) hf
      have hf := q_ip hx9 hf
      refine q_blk 1 [] (c' := q_kc (t, r, m, z, N, ext, rx, L) I E 100 [some (.ref 512), some (.int x1), some (.int x2), some (.int ((I 507) j1))] [.int ((I 507) j1)] [] []) ok_X14_pushed rfl q_cn ?_
      cases hf
      exact q_kri ok_X14_pushed rfl rfl rfl (Nat.le_of_ble_eq_true rfl) (Nat.le_of_ble_eq_true rfl) ⟨rfl, q_hpe (q_fin [] rfl) (q_fin [] rfl)⟩
    | 11, ht9 =>
      have hx9 : x1 = 16 := hx9
      cases ht9
      have hf := q_in (fun hz9 => absurd (hx9.symm.trans hz9) (by decide)) hf
      have hf := q_in (fun hz9 => absurd (hx9.symm.trans hz9) (by decide)) hf
      have hf := q_in (fun hz9 => absurd (hx9.symm.trans hz9) (by decide)) hf
      have hf := q_in (fun hz9 => absurd (hx9.symm.trans hz9) (by decide)) hf
      have hf := q_in (fun hz9 => absurd (hx9.symm.trans hz9) (by decide)) hf
      have hf := q_in (fun hz9 => absurd (hx9.symm.trans hz9) (by decide)) hf
      have hf := q_in (fun hz9 => absurd (hx9.symm.trans hz9) (by decide)) hf
      have hf := q_in (fun hz9 => absurd (hx9.symm.trans hz9) (by decide)) hf
      have hf := q_in (fun hz9 => absurd (hx9.symm.trans hz9) (by decide)) hf
      have hf := q_in (fun hz9 => absurd (hx9.symm.trans hz9) (by decide)) hf
      have hf := q_in (fun hz9 => absurd (hx9.symm.trans hz9) (by decide)) hf
      have hf := q_ip hx9 hf
      refine q_blk 2 [] (c' := q_kc (t, r, m, z, N, ext, rx, L) I E 11 [some (.ref 512), some (.int x1), some (.int x2), some (.int ((I 507) j1))] [.int ((I 512) 0)] [] []) ok_X14_pushed rfl q_cn ?_
      cases hf
      exact q_kri ok_X14_pushed rfl rfl rfl (Nat.le_of_ble_eq_true rfl) (Nat.le_of_ble_eq_true rfl) ⟨rfl, q_hpe (q_fin [] rfl) (q_fin [] rfl)⟩
    | 12, ht9 =>
      have hx9 : x1 = 17 := hx9
      cases ht9
      have hf := q_in (fun hz9 => absurd (hx9.symm.trans hz9) (by decide)) hf
      have hf := q_in (fun hz9 => absurd (hx9.symm.trans hz9) (by decide)) hf
      have hf := q_in (fun hz9 => absurd (hx9.symm.trans hz9) (by decide)) hf
      have hf := q_in (fun hz9 => absurd (hx9.symm.trans hz9) (by decide)) hf
      have hf := q_in (fun hz9 => absurd (hx9.symm.trans hz9) (by decide)) hf
      have hf := q_in (fun hz9 => absurd (hx9.symm.trans hz9) (by decide)) hf
      have hf := q_in (fun hz9 => absurd (hx9.symm.trans hz9) (by decide)) hf
      have hf := q_in (fun hz9 => absurd (hx9.symm.trans hz9) (by decide)) hf
      have hf := q_in (fun hz9 => absurd (hx9.symm.trans hz9) (by decide)) hf
      have hf := q_in (fun hz9 => absurd (hx9.symm.trans hz9) (by decide)) hf
      have hf := q_in (fun hz9 => absurd (hx9.symm.trans hz9) (by decide)) hf
      have hf := q_in (fun hz9 => absurd (hx9.symm.trans hz9) (by decide)) hf
      have hf := q_ip hx9 hf
      refine q_blk 2 [] (c' := q_kc (t, r, m, z, N, ext, rx, L) I E 14 [some (.ref 512), some (.int x1), some (.int x2), some (.int ((I 507) j1))] [.int (1 : Int32), .ref 512] [] []) ok_X14_pushed rfl q_cn ?_
      obtain ⟨r6, hr6, hf⟩ := q_bd hf
      refine q_kV (M2 := m_X14_used) (As := [.int (1 : Int32)]) (b := 512) (v2 := some (.int r6)) ok_X14_pushed ok_X14_used cv_X14_used (ct_X14_used_512 (d := 1) (Nat.le_refl _) hr6) rfl rfl (Or.inl rfl) rfl rfl rfl rfl (Nat.le_trans (Nat.le_of_ble_eq_true rfl) hd) (Nat.le_of_ble_eq_true rfl) (Nat.le_of_ble_eq_true rfl) (Nat.le_of_ble_eq_true rfl) (fun x hx => absurd hx List.not_mem_nil) (q_nmL0 _) (q_nmS0 _) rfl (pos' := 15) (st' := [.int r6]) (lI' := []) (lE' := []) rfl rfl rfl rfl ?_
      cases hf
      exact q_kri ok_X14_pushed rfl rfl rfl (Nat.le_of_ble_eq_true rfl) (Nat.le_of_ble_eq_true rfl) ⟨rfl, q_hpe (q_fin [] rfl) (q_fin [] rfl)⟩
    | 13, ht9 =>
      have hx9 : x1 = 18 := hx9
      cases ht9
      have hf := q_in (fun hz9 => absurd (hx9.symm.trans hz9) (by decide)) hf
      have hf := q_in (fun hz9 => absurd (hx9.symm.trans hz9) (by decide)) hf
      have hf := q_in (fun hz9 => absurd (hx9.symm.trans hz9) (by decide)) hf
      have hf := q_in (fun hz9 => absurd (hx9.symm.trans hz9) (by decide)) hf
      have hf := q_in (fun hz9 => absurd (hx9.symm.trans hz9) (by decide)) hf
      have hf := q_in (fun hz9 => absurd (hx9.symm.trans hz9) (by decide)) hf
      have hf := q_in (fun hz9 => absurd (hx9.symm.trans hz9) (by decide)) hf
      have hf := q_in (fun hz9 => absurd (hx9.symm.trans hz9) (by decide)) hf
      have hf := q_in (fun hz9 => absurd (hx9.symm.trans hz9) (by decide)) hf
      have hf := q_in (fun hz9 => absurd (hx9.symm.trans hz9) (by decide)) hf
      have hf := q_in (fun hz9 => absurd (hx9.symm.trans hz9) (by decide)) hf
      have hf := q_in (fun hz9 => absurd (hx9.symm.trans hz9) (by decide)) hf
      have hf := q_in (fun hz9 => absurd (hx9.symm.trans hz9) (by decide)) hf
      have hf := q_ip hx9 hf
      refine q_blk 6 [] (c' := q_kc (t, r, m, z, N, ext, rx, L) I E 22 [some (.ref 512), some (.int x1), some (.int x2), some (.int ((I 507) j1))] [.int (1 : Int32), .ref 512, .int ((I 499) 1)] [] []) ok_X14_pushed rfl q_cn ?_
      obtain ⟨r7, hr7, hf⟩ := q_bd hf
      refine q_kV (M2 := m_X14_used) (As := [.int (1 : Int32)]) (b := 512) (v2 := some (.int r7)) ok_X14_pushed ok_X14_used cv_X14_used (ct_X14_used_512 (d := 1) (Nat.le_refl _) hr7) rfl rfl (Or.inl rfl) rfl rfl rfl rfl (Nat.le_trans (Nat.le_of_ble_eq_true rfl) hd) (Nat.le_of_ble_eq_true rfl) (Nat.le_of_ble_eq_true rfl) (Nat.le_of_ble_eq_true rfl) (fun x hx => absurd hx List.not_mem_nil) (q_nmL0 _) (q_nmS0 _) rfl (pos' := 23) (st' := [.int r7, .int ((I 499) 1)]) (lI' := []) (lE' := []) rfl rfl rfl rfl ?_
      refine q_blk 1 [] (c' := q_kc (t, r, m, z, N, ext, rx, L) I E 24 [some (.ref 512), some (.int x1), some (.int x2), some (.int ((I 507) j1))] [.int (((I 499) 1) - r7)] [] []) ok_X14_pushed rfl q_cn ?_
      cases hf
      exact q_kri ok_X14_pushed rfl rfl rfl (Nat.le_of_ble_eq_true rfl) (Nat.le_of_ble_eq_true rfl) ⟨rfl, q_hpe (q_fin [] rfl) (q_fin [] rfl)⟩
    | 14, ht9 =>
      have hx9 : x1 = 19 := hx9
      cases ht9
      have hf := q_in (fun hz9 => absurd (hx9.symm.trans hz9) (by decide)) hf
      have hf := q_in (fun hz9 => absurd (hx9.symm.trans hz9) (by decide)) hf
      have hf := q_in (fun hz9 => absurd (hx9.symm.trans hz9) (by decide)) hf
      have hf := q_in (fun hz9 => absurd (hx9.symm.trans hz9) (by decide)) hf
      have hf := q_in (fun hz9 => absurd (hx9.symm.trans hz9) (by decide)) hf
      have hf := q_in (fun hz9 => absurd (hx9.symm.trans hz9) (by decide)) hf
      have hf := q_in (fun hz9 => absurd (hx9.symm.trans hz9) (by decide)) hf
      have hf := q_in (fun hz9 => absurd (hx9.symm.trans hz9) (by decide)) hf
      have hf := q_in (fun hz9 => absurd (hx9.symm.trans hz9) (by decide)) hf
      have hf := q_in (fun hz9 => absurd (hx9.symm.trans hz9) (by decide)) hf
      have hf := q_in (fun hz9 => absurd (hx9.symm.trans hz9) (by decide)) hf
      have hf := q_in (fun hz9 => absurd (hx9.symm.trans hz9) (by decide)) hf
      have hf := q_in (fun hz9 => absurd (hx9.symm.trans hz9) (by decide)) hf
      have hf := q_in (fun hz9 => absurd (hx9.symm.trans hz9) (by decide)) hf
      have hf := q_ip hx9 hf
      refine q_blk 2 [] (c' := q_kc (t, r, m, z, N, ext, rx, L) I E 27 [some (.ref 512), some (.int x1), some (.int x2), some (.int ((I 507) j1))] [.int ((I 512) 3)] [] []) ok_X14_pushed rfl q_cn ?_
      cases hf
      exact q_kri ok_X14_pushed rfl rfl rfl (Nat.le_of_ble_eq_true rfl) (Nat.le_of_ble_eq_true rfl) ⟨rfl, q_hpe (q_fin [] rfl) (q_fin [] rfl)⟩
    | 15, ht9 =>
      have hx9 : x1 = 20 := hx9
      cases ht9
      have hf := q_in (fun hz9 => absurd (hx9.symm.trans hz9) (by decide)) hf
      have hf := q_in (fun hz9 => absurd (hx9.symm.trans hz9) (by decide)) hf
      have hf := q_in (fun hz9 => absurd (hx9.symm.trans hz9) (by decide)) hf
      have hf := q_in (fun hz9 => absurd (hx9.symm.trans hz9) (by decide)) hf
      have hf := q_in (fun hz9 => absurd (hx9.symm.trans hz9) (by decide)) hf
      have hf := q_in (fun hz9 => absurd (hx9.symm.trans hz9) (by decide)) hf
      have hf := q_in (fun hz9 => absurd (hx9.symm.trans hz9) (by decide)) hf
      have hf := q_in (fun hz9 => absurd (hx9.symm.trans hz9) (by decide)) hf
      have hf := q_in (fun hz9 => absurd (hx9.symm.trans hz9) (by decide)) hf
      have hf := q_in (fun hz9 => absurd (hx9.symm.trans hz9) (by decide)) hf
      have hf := q_in (fun hz9 => absurd (hx9.symm.trans hz9) (by decide)) hf
      have hf := q_in (fun hz9 => absurd (hx9.symm.trans hz9) (by decide)) hf
      have hf := q_in (fun hz9 => absurd (hx9.symm.trans hz9) (by decide)) hf
      have hf := q_in (fun hz9 => absurd (hx9.symm.trans hz9) (by decide)) hf
      have hf := q_in (fun hz9 => absurd (hx9.symm.trans hz9) (by decide)) hf
      have hf := q_ip hx9 hf
      refine q_blk 1 [] (c' := q_kc (t, r, m, z, N, ext, rx, L) I E 29 [some (.ref 512), some (.int x1), some (.int x2), some (.int ((I 507) j1))] [.ref 512] [] []) ok_X14_pushed rfl q_cn ?_
      obtain ⟨r8, hr8, hf⟩ := q_bd hf
      refine q_kV (M2 := m_X14_bales_) (As := []) (b := 512) (v2 := some (.int r8)) ok_X14_pushed ok_X14_bales_ cv_X14_bales_ (ct_X14_bales__512 (d := 2) (Nat.le_refl _) hr8) rfl rfl (Or.inl rfl) rfl rfl rfl rfl (Nat.le_trans (Nat.le_of_ble_eq_true rfl) hd) (Nat.le_of_ble_eq_true rfl) (Nat.le_of_ble_eq_true rfl) (Nat.le_of_ble_eq_true rfl) (fun x hx => absurd hx List.not_mem_nil) (q_nmL0 _) (q_nmS0 _) rfl (pos' := 30) (st' := [.int r8]) (lI' := []) (lE' := []) rfl rfl rfl rfl ?_
      cases hf
      exact q_kri ok_X14_pushed rfl rfl rfl (Nat.le_of_ble_eq_true rfl) (Nat.le_of_ble_eq_true rfl) ⟨rfl, q_hpe (q_fin [] rfl) (q_fin [] rfl)⟩
    | 16, ht9 =>
      have hx9 : x1 = 21 := hx9
      cases ht9
      have hf := q_in (fun hz9 => absurd (hx9.symm.trans hz9) (by decide)) hf
      have hf := q_in (fun hz9 => absurd (hx9.symm.trans hz9) (by decide)) hf
      have hf := q_in (fun hz9 => absurd (hx9.symm.trans hz9) (by decide)) hf
      have hf := q_in (fun hz9 => absurd (hx9.symm.trans hz9) (by decide)) hf
      have hf := q_in (fun hz9 => absurd (hx9.symm.trans hz9) (by decide)) hf
      have hf := q_in (fun hz9 => absurd (hx9.symm.trans hz9) (by decide)) hf
      have hf := q_in (fun hz9 => absurd (hx9.symm.trans hz9) (by decide)) hf
      have hf := q_in (fun hz9 => absurd (hx9.symm.trans hz9) (by decide)) hf
      have hf := q_in (fun hz9 => absurd (hx9.symm.trans hz9) (by decide)) hf
      have hf := q_in (fun hz9 => absurd (hx9.symm.trans hz9) (by decide)) hf
      have hf := q_in (fun hz9 => absurd (hx9.symm.trans hz9) (by decide)) hf
      have hf := q_in (fun hz9 => absurd (hx9.symm.trans hz9) (by decide)) hf
      have hf := q_in (fun hz9 => absurd (hx9.symm.trans hz9) (by decide)) hf
      have hf := q_in (fun hz9 => absurd (hx9.symm.trans hz9) (by decide)) hf
      have hf := q_in (fun hz9 => absurd (hx9.symm.trans hz9) (by decide)) hf
      have hf := q_in (fun hz9 => absurd (hx9.symm.trans hz9) (by decide)) hf
      have hf := q_ip hx9 hf
      obtain ⟨j9, hj9, hf⟩ := q_bd hf
      refine q_blf 5 [j9] (a := q_kc (t, r, m, z, N, ext, rx, L) I E 55 [some (.ref 512), some (.int x1), some (.int x2), some (.int ((I 507) j1))] [] [] []) (b := q_kc (t, r, m, z, N, ext, rx, L) I E 53 [some (.ref 512), some (.int x1), some (.int x2), some (.int ((I 507) j1))] [] [] []) (P := ¬ ((I 513) j9) = (-1 : Int32)) ok_X14_pushed rfl (q_cc hj9 q_cn) (fun h10 => ?_) (fun h10 => ?_)
      · have hf := q_ip h10 hf
        obtain ⟨j11, hj11, hf⟩ := q_bd hf
        obtain ⟨j12, hj12, hf⟩ := q_bd hf
        refine q_blk 7 [j11, j12] (c' := q_kc (t, r, m, z, N, ext, rx, L) I E 62 [some (.ref 512), some (.int x1), some (.int x2), some (.int ((I 507) j1))] [.int ((I 518) j12)] [] []) ok_X14_pushed rfl (q_cc hj12 (q_cc hj11 q_cn)) ?_
        cases hf
        exact q_kri ok_X14_pushed rfl rfl rfl (Nat.le_of_ble_eq_true rfl) (Nat.le_of_ble_eq_true rfl) ⟨rfl, q_hpe (q_fin [] rfl) (q_fin [] rfl)⟩
      · have hf := q_in h10 hf
        refine q_blk 2 [] (c' := q_kc (t, r, m, z, N, ext, rx, L) I E 62 [some (.ref 512), some (.int x1), some (.int x2), some (.int ((I 507) j1))] [.int (0 : Int32)] [] []) ok_X14_pushed rfl q_cn ?_
        cases hf
        exact q_kri ok_X14_pushed rfl rfl rfl (Nat.le_of_ble_eq_true rfl) (Nat.le_of_ble_eq_true rfl) ⟨rfl, q_hpe (q_fin [] rfl) (q_fin [] rfl)⟩
    | 17, ht9 =>
      have hx9 : x1 = 22 := hx9
      cases ht9
      have hf := q_in (fun hz9 => absurd (hx9.symm.trans hz9) (by decide)) hf
      have hf := q_in (fun hz9 => absurd (hx9.symm.trans hz9) (by decide)) hf
      have hf := q_in (fun hz9 => absurd (hx9.symm.trans hz9) (by decide)) hf
      have hf := q_in (fun hz9 => absurd (hx9.symm.trans hz9) (by decide)) hf
      have hf := q_in (fun hz9 => absurd (hx9.symm.trans hz9) (by decide)) hf
      have hf := q_in (fun hz9 => absurd (hx9.symm.trans hz9) (by decide)) hf
      have hf := q_in (fun hz9 => absurd (hx9.symm.trans hz9) (by decide)) hf
      have hf := q_in (fun hz9 => absurd (hx9.symm.trans hz9) (by decide)) hf
      have hf := q_in (fun hz9 => absurd (hx9.symm.trans hz9) (by decide)) hf
      have hf := q_in (fun hz9 => absurd (hx9.symm.trans hz9) (by decide)) hf
      have hf := q_in (fun hz9 => absurd (hx9.symm.trans hz9) (by decide)) hf
      have hf := q_in (fun hz9 => absurd (hx9.symm.trans hz9) (by decide)) hf
      have hf := q_in (fun hz9 => absurd (hx9.symm.trans hz9) (by decide)) hf
      have hf := q_in (fun hz9 => absurd (hx9.symm.trans hz9) (by decide)) hf
      have hf := q_in (fun hz9 => absurd (hx9.symm.trans hz9) (by decide)) hf
      have hf := q_in (fun hz9 => absurd (hx9.symm.trans hz9) (by decide)) hf
      have hf := q_in (fun hz9 => absurd (hx9.symm.trans hz9) (by decide)) hf
      have hf := q_ip hx9 hf
      obtain ⟨j13, hj13, hf⟩ := q_bd hf
      refine q_blf 5 [j13] (a := q_kc (t, r, m, z, N, ext, rx, L) I E 71 [some (.ref 512), some (.int x1), some (.int x2), some (.int ((I 507) j1))] [] [] []) (b := q_kc (t, r, m, z, N, ext, rx, L) I E 69 [some (.ref 512), some (.int x1), some (.int x2), some (.int ((I 507) j1))] [] [] []) (P := ¬ ((I 513) j13) = (-1 : Int32)) ok_X14_pushed rfl (q_cc hj13 q_cn) (fun h14 => ?_) (fun h14 => ?_)
      · have hf := q_ip h14 hf
        refine q_blk 1 [] (c' := q_kc (t, r, m, z, N, ext, rx, L) I E 72 [some (.ref 512), some (.int x1), some (.int x2), some (.int ((I 507) j1))] [.int (1 : Int32)] [] []) ok_X14_pushed rfl q_cn ?_
        cases hf
        exact q_kri ok_X14_pushed rfl rfl rfl (Nat.le_of_ble_eq_true rfl) (Nat.le_of_ble_eq_true rfl) ⟨rfl, q_hpe (q_fin [] rfl) (q_fin [] rfl)⟩
      · have hf := q_in h14 hf
        refine q_blk 2 [] (c' := q_kc (t, r, m, z, N, ext, rx, L) I E 72 [some (.ref 512), some (.int x1), some (.int x2), some (.int ((I 507) j1))] [.int (0 : Int32)] [] []) ok_X14_pushed rfl q_cn ?_
        cases hf
        exact q_kri ok_X14_pushed rfl rfl rfl (Nat.le_of_ble_eq_true rfl) (Nat.le_of_ble_eq_true rfl) ⟨rfl, q_hpe (q_fin [] rfl) (q_fin [] rfl)⟩
    | 18, ht9 =>
      have hx9 : x1 = 23 := hx9
      cases ht9
      have hf := q_in (fun hz9 => absurd (hx9.symm.trans hz9) (by decide)) hf
      have hf := q_in (fun hz9 => absurd (hx9.symm.trans hz9) (by decide)) hf
      have hf := q_in (fun hz9 => absurd (hx9.symm.trans hz9) (by decide)) hf
      have hf := q_in (fun hz9 => absurd (hx9.symm.trans hz9) (by decide)) hf
      have hf := q_in (fun hz9 => absurd (hx9.symm.trans hz9) (by decide)) hf
      have hf := q_in (fun hz9 => absurd (hx9.symm.trans hz9) (by decide)) hf
      have hf := q_in (fun hz9 => absurd (hx9.symm.trans hz9) (by decide)) hf
      have hf := q_in (fun hz9 => absurd (hx9.symm.trans hz9) (by decide)) hf
      have hf := q_in (fun hz9 => absurd (hx9.symm.trans hz9) (by decide)) hf
      have hf := q_in (fun hz9 => absurd (hx9.symm.trans hz9) (by decide)) hf
      have hf := q_in (fun hz9 => absurd (hx9.symm.trans hz9) (by decide)) hf
      have hf := q_in (fun hz9 => absurd (hx9.symm.trans hz9) (by decide)) hf
      have hf := q_in (fun hz9 => absurd (hx9.symm.trans hz9) (by decide)) hf
      have hf := q_in (fun hz9 => absurd (hx9.symm.trans hz9) (by decide)) hf
      have hf := q_in (fun hz9 => absurd (hx9.symm.trans hz9) (by decide)) hf
      have hf := q_in (fun hz9 => absurd (hx9.symm.trans hz9) (by decide)) hf
      have hf := q_in (fun hz9 => absurd (hx9.symm.trans hz9) (by decide)) hf
      have hf := q_in (fun hz9 => absurd (hx9.symm.trans hz9) (by decide)) hf
      have hf := q_ip hx9 hf
      obtain ⟨j15, hj15, hf⟩ := q_bd hf
      refine q_blf 5 [j15] (a := q_kc (t, r, m, z, N, ext, rx, L) I E 97 [some (.ref 512), some (.int x1), some (.int x2), some (.int ((I 507) j1))] [] [] []) (b := q_kc (t, r, m, z, N, ext, rx, L) I E 79 [some (.ref 512), some (.int x1), some (.int x2), some (.int ((I 507) j1))] [] [] []) (P := ((I 513) j15) = (-1 : Int32)) ok_X14_pushed rfl (q_cc hj15 q_cn) (fun h16 => ?_) (fun h16 => ?_)
      · have hf := q_ip h16 hf
        refine q_blk 1 [] (c' := q_kc (t, r, m, z, N, ext, rx, L) I E 98 [some (.ref 512), some (.int x1), some (.int x2), some (.int ((I 507) j1))] [.int (0 : Int32)] [] []) ok_X14_pushed rfl q_cn ?_
        cases hf
        exact q_kri ok_X14_pushed rfl rfl rfl (Nat.le_of_ble_eq_true rfl) (Nat.le_of_ble_eq_true rfl) ⟨rfl, q_hpe (q_fin [] rfl) (q_fin [] rfl)⟩
      · have hf := q_in h16 hf
        obtain ⟨j17, hj17, hf⟩ := q_bd hf
        obtain ⟨j18, hj18, hf⟩ := q_bd hf
        obtain ⟨j19, hj19, hf⟩ := q_bd hf
        refine q_blf 15 [j17, j18, j19] (a := q_kc (t, r, m, z, N, ext, rx, L) I E 97 [some (.ref 512), some (.int x1), some (.int x2), some (.int ((I 507) j1))] [] [] []) (b := q_kc (t, r, m, z, N, ext, rx, L) I E 95 [some (.ref 512), some (.int x1), some (.int x2), some (.int ((I 507) j1))] [] [] []) (P := ¬ ((I 513) j17) = ((I 513) j19)) ok_X14_pushed rfl (q_cc hj19 (q_cc hj18 (q_cc hj17 q_cn))) (fun h20 => ?_) (fun h20 => ?_)
        · have hf := q_ip h20 hf
          refine q_blk 1 [] (c' := q_kc (t, r, m, z, N, ext, rx, L) I E 98 [some (.ref 512), some (.int x1), some (.int x2), some (.int ((I 507) j1))] [.int (0 : Int32)] [] []) ok_X14_pushed rfl q_cn ?_
          cases hf
          exact q_kri ok_X14_pushed rfl rfl rfl (Nat.le_of_ble_eq_true rfl) (Nat.le_of_ble_eq_true rfl) ⟨rfl, q_hpe (q_fin [] rfl) (q_fin [] rfl)⟩
        · have hf := q_in h20 hf
          refine q_blk 2 [] (c' := q_kc (t, r, m, z, N, ext, rx, L) I E 98 [some (.ref 512), some (.int x1), some (.int x2), some (.int ((I 507) j1))] [.int (1 : Int32)] [] []) ok_X14_pushed rfl q_cn ?_
          cases hf
          exact q_kri ok_X14_pushed rfl rfl rfl (Nat.le_of_ble_eq_true rfl) (Nat.le_of_ble_eq_true rfl) ⟨rfl, q_hpe (q_fin [] rfl) (q_fin [] rfl)⟩
    | z9 + 19, ht9 => cases ht9
  · have hf := q_in (hx9 0 (by decide)) hf
    have hf := q_in (hx9 1 (by decide)) hf
    have hf := q_in (hx9 2 (by decide)) hf
    have hf := q_in (hx9 3 (by decide)) hf
    have hf := q_in (hx9 4 (by decide)) hf
    have hf := q_in (hx9 5 (by decide)) hf
    have hf := q_in (hx9 6 (by decide)) hf
    have hf := q_in (hx9 7 (by decide)) hf
    have hf := q_in (hx9 8 (by decide)) hf
    have hf := q_in (hx9 9 (by decide)) hf
    have hf := q_in (hx9 10 (by decide)) hf
    have hf := q_in (hx9 11 (by decide)) hf
    have hf := q_in (hx9 12 (by decide)) hf
    have hf := q_in (hx9 13 (by decide)) hf
    have hf := q_in (hx9 14 (by decide)) hf
    have hf := q_in (hx9 15 (by decide)) hf
    have hf := q_in (hx9 16 (by decide)) hf
    have hf := q_in (hx9 17 (by decide)) hf
    have hf := q_in (hx9 18 (by decide)) hf
    refine q_blk 1 [] (c' := q_kc (t, r, m, z, N, ext, rx, L) I E 100 [some (.ref 512), some (.int x1), some (.int x2), some (.int ((I 507) j1))] [.int ((I 507) j1)] [] []) ok_X14_pushed rfl q_cn ?_
    cases hf
    exact q_kri ok_X14_pushed rfl rfl rfl (Nat.le_of_ble_eq_true rfl) (Nat.le_of_ble_eq_true rfl) ⟨rfl, q_hpe (q_fin [] rfl) (q_fin [] rfl)⟩
set_option maxHeartbeats 4000000 in
theorem ct_X15_both {g : q_G} {t : Nat} {r : Nat} {m : Nat} {z : Nat} {N : Nat} {ext : Nat → q_Sh} {rx : Nat → Nat → Option Nat} {L : Nat → Nat → Int64} {d : Nat} (hd : 2 ≤ d)  {I : Nat → Nat → Int32} {E : Nat → Nat → Option Nat} {x0 : Int32} {x1 : Int32} {x2 : Int32} {r0 : Int32} (hf : f_X15_both x0 x1 x2 = some r0) : q_Ct g m_X15_both d 0 0 [] [.int x0, .int x1, .int x2] (q_hp (t, r, m, z, N, ext, rx, L) I E) (fun o h' => o = .inl (some (.int r0)) ∧ h' = q_hp (t, r, m, z, N, ext, rx, L) (q_ws I []) (q_ws E [])) := by
  rw [f_X15_both] at hf
  refine q_Ct_of ok_X15_both (Nat.le_of_ble_eq_true rfl) ?_ _ rfl rfl
  change q_J g m_X15_both d 0 0 _ [] _ 0 0 (q_kc (t, r, m, z, N, ext, rx, L) I E 0 [some (.int x0), some (.int x1), some (.int x2)] [] [] [])
  refine q_blk 1 [] (c' := q_kc (t, r, m, z, N, ext, rx, L) I E 1 [some (.int x0), some (.int x1), some (.int x2)] [.int x0] [] []) ok_X15_both rfl q_cn ?_
  refine q_ksw [65, 69, 22, 26, 69, 69, 69, 69, 69, 2, 6, 10, 14, 30, 37, 69, 69, 44, 51, 58] ok_X15_both rfl (dp := 69) rfl (fun ix t9 ht9 hx9 => ?_) (fun hx9 => ?_) (by decide) (by decide)
  · match ix, ht9 with
    | 0, ht9 =>
      have hx9 : x0 = 25 := hx9
      cases ht9
      have hf := q_ip hx9 hf
      refine q_blk 3 [] (c' := q_kc (t, r, m, z, N, ext, rx, L) I E 68 [some (.int x0), some (.int x1), some (.int x2)] [.int (x1 &&& x2)] [] []) ok_X15_both rfl q_cn ?_
      cases hf
      exact q_kri ok_X15_both rfl rfl rfl (Nat.le_of_ble_eq_true rfl) (Nat.le_of_ble_eq_true rfl) ⟨rfl, q_hpe (q_fin [] rfl) (q_fin [] rfl)⟩
    | 1, ht9 =>
      have hx9 : x0 = 26 := hx9
      cases ht9
      have hf := q_in (fun hz9 => absurd (hx9.symm.trans hz9) (by decide)) hf
      have hf := q_ip hx9 hf
      refine q_blk 3 [] (c' := q_kc (t, r, m, z, N, ext, rx, L) I E 72 [some (.int x0), some (.int x1), some (.int x2)] [.int (x1 ||| x2)] [] []) ok_X15_both rfl q_cn ?_
      cases hf
      exact q_kri ok_X15_both rfl rfl rfl (Nat.le_of_ble_eq_true rfl) (Nat.le_of_ble_eq_true rfl) ⟨rfl, q_hpe (q_fin [] rfl) (q_fin [] rfl)⟩
    | 2, ht9 =>
      have hx9 : x0 = 27 := hx9
      cases ht9
      have hf := q_in (fun hz9 => absurd (hx9.symm.trans hz9) (by decide)) hf
      have hf := q_in (fun hz9 => absurd (hx9.symm.trans hz9) (by decide)) hf
      have hf := q_ip hx9 hf
      refine q_blk 2 [] (c' := q_kc (t, r, m, z, N, ext, rx, L) I E 24 [some (.int x0), some (.int x1), some (.int x2)] [.int x2, .int x1] [] []) ok_X15_both rfl q_cn ?_
      refine q_kmn (pos' := 25) ok_X15_both rfl rfl (Nat.le_trans (Nat.le_of_ble_eq_true rfl) hd) (Nat.le_of_ble_eq_true rfl) (Nat.le_of_ble_eq_true rfl) (Nat.le_of_ble_eq_true rfl) rfl ?_
      cases hf
      exact q_kri ok_X15_both rfl rfl rfl (Nat.le_of_ble_eq_true rfl) (Nat.le_of_ble_eq_true rfl) ⟨rfl, q_hpe (q_fin [] rfl) (q_fin [] rfl)⟩
    | 3, ht9 =>
      have hx9 : x0 = 28 := hx9
      cases ht9
      have hf := q_in (fun hz9 => absurd (hx9.symm.trans hz9) (by decide)) hf
      have hf := q_in (fun hz9 => absurd (hx9.symm.trans hz9) (by decide)) hf
      have hf := q_in (fun hz9 => absurd (hx9.symm.trans hz9) (by decide)) hf
      have hf := q_ip hx9 hf
      refine q_blk 2 [] (c' := q_kc (t, r, m, z, N, ext, rx, L) I E 28 [some (.int x0), some (.int x1), some (.int x2)] [.int x2, .int x1] [] []) ok_X15_both rfl q_cn ?_
      refine q_kmx (pos' := 29) ok_X15_both rfl rfl (Nat.le_trans (Nat.le_of_ble_eq_true rfl) hd) (Nat.le_of_ble_eq_true rfl) (Nat.le_of_ble_eq_true rfl) (Nat.le_of_ble_eq_true rfl) rfl ?_
      cases hf
      exact q_kri ok_X15_both rfl rfl rfl (Nat.le_of_ble_eq_true rfl) (Nat.le_of_ble_eq_true rfl) ⟨rfl, q_hpe (q_fin [] rfl) (q_fin [] rfl)⟩
    | 4, ht9 =>
      have hx9 : x0 = 29 := hx9
      cases ht9
      have hf := q_in (fun hz9 => absurd (hx9.symm.trans hz9) (by decide)) hf
      have hf := q_in (fun hz9 => absurd (hx9.symm.trans hz9) (by decide)) hf
      have hf := q_in (fun hz9 => absurd (hx9.symm.trans hz9) (by decide)) hf
      have hf := q_in (fun hz9 => absurd (hx9.symm.trans hz9) (by decide)) hf
      have hf := q_ip hx9 hf
      refine q_blk 3 [] (c' := q_kc (t, r, m, z, N, ext, rx, L) I E 72 [some (.int x0), some (.int x1), some (.int x2)] [.int (x1 ||| x2)] [] []) ok_X15_both rfl q_cn ?_
      cases hf
      exact q_kri ok_X15_both rfl rfl rfl (Nat.le_of_ble_eq_true rfl) (Nat.le_of_ble_eq_true rfl) ⟨rfl, q_hpe (q_fin [] rfl) (q_fin [] rfl)⟩
    | 5, ht9 =>
      have hx9 : x0 = 30 := hx9
      cases ht9
      have hf := q_in (fun hz9 => absurd (hx9.symm.trans hz9) (by decide)) hf
      have hf := q_in (fun hz9 => absurd (hx9.symm.trans hz9) (by decide)) hf
      have hf := q_in (fun hz9 => absurd (hx9.symm.trans hz9) (by decide)) hf
      have hf := q_in (fun hz9 => absurd (hx9.symm.trans hz9) (by decide)) hf
      have hf := q_in (fun hz9 => absurd (hx9.symm.trans hz9) (by decide)) hf
      have hf := q_ip hx9 hf
      refine q_blk 3 [] (c' := q_kc (t, r, m, z, N, ext, rx, L) I E 72 [some (.int x0), some (.int x1), some (.int x2)] [.int (x1 ||| x2)] [] []) ok_X15_both rfl q_cn ?_
      cases hf
      exact q_kri ok_X15_both rfl rfl rfl (Nat.le_of_ble_eq_true rfl) (Nat.le_of_ble_eq_true rfl) ⟨rfl, q_hpe (q_fin [] rfl) (q_fin [] rfl)⟩
    | 6, ht9 =>
      have hx9 : x0 = 31 := hx9
      cases ht9
      have hf := q_in (fun hz9 => absurd (hx9.symm.trans hz9) (by decide)) hf
      have hf := q_in (fun hz9 => absurd (hx9.symm.trans hz9) (by decide)) hf
      have hf := q_in (fun hz9 => absurd (hx9.symm.trans hz9) (by decide)) hf
      have hf := q_in (fun hz9 => absurd (hx9.symm.trans hz9) (by decide)) hf
      have hf := q_in (fun hz9 => absurd (hx9.symm.trans hz9) (by decide)) hf
      have hf := q_in (fun hz9 => absurd (hx9.symm.trans hz9) (by decide)) hf
      have hf := q_ip hx9 hf
      refine q_blk 3 [] (c' := q_kc (t, r, m, z, N, ext, rx, L) I E 72 [some (.int x0), some (.int x1), some (.int x2)] [.int (x1 ||| x2)] [] []) ok_X15_both rfl q_cn ?_
      cases hf
      exact q_kri ok_X15_both rfl rfl rfl (Nat.le_of_ble_eq_true rfl) (Nat.le_of_ble_eq_true rfl) ⟨rfl, q_hpe (q_fin [] rfl) (q_fin [] rfl)⟩
    | 7, ht9 =>
      have hx9 : x0 = 32 := hx9
      cases ht9
      have hf := q_in (fun hz9 => absurd (hx9.symm.trans hz9) (by decide)) hf
      have hf := q_in (fun hz9 => absurd (hx9.symm.trans hz9) (by decide)) hf
      have hf := q_in (fun hz9 => absurd (hx9.symm.trans hz9) (by decide)) hf
      have hf := q_in (fun hz9 => absurd (hx9.symm.trans hz9) (by decide)) hf
      have hf := q_in (fun hz9 => absurd (hx9.symm.trans hz9) (by decide)) hf
      have hf := q_in (fun hz9 => absurd (hx9.symm.trans hz9) (by decide)) hf
      have hf := q_in (fun hz9 => absurd (hx9.symm.trans hz9) (by decide)) hf
      have hf := q_ip hx9 hf
      refine q_blk 3 [] (c' := q_kc (t, r, m, z, N, ext, rx, L) I E 72 [some (.int x0), some (.int x1), some (.int x2)] [.int (x1 ||| x2)] [] []) ok_X15_both rfl q_cn ?_
      cases hf
      exact q_kri ok_X15_both rfl rfl rfl (Nat.le_of_ble_eq_true rfl) (Nat.le_of_ble_eq_true rfl) ⟨rfl, q_hpe (q_fin [] rfl) (q_fin [] rfl)⟩
    | 8, ht9 =>
      have hx9 : x0 = 33 := hx9
      cases ht9
      have hf := q_in (fun hz9 => absurd (hx9.symm.trans hz9) (by decide)) hf
      have hf := q_in (fun hz9 => absurd (hx9.symm.trans hz9) (by decide)) hf
      have hf := q_in (fun hz9 => absurd (hx9.symm.trans hz9) (by decide)) hf
      have hf := q_in (fun hz9 => absurd (hx9.symm.trans hz9) (by decide)) hf
      have hf := q_in (fun hz9 => absurd (hx9.symm.trans hz9) (by decide)) hf
      have hf := q_in (fun hz9 => absurd (hx9.symm.trans hz9) (by decide)) hf
      have hf := q_in (fun hz9 => absurd (hx9.symm.trans hz9) (by decide)) hf
      have hf := q_in (fun hz9 => absurd (hx9.symm.trans hz9) (by decide)) hf
      have hf := q_ip hx9 hf
      refine q_blk 3 [] (c' := q_kc (t, r, m, z, N, ext, rx, L) I E 72 [some (.int x0), some (.int x1), some (.int x2)] [.int (x1 ||| x2)] [] []) ok_X15_both rfl q_cn ?_
      cases hf
      exact q_kri ok_X15_both rfl rfl rfl (Nat.le_of_ble_eq_true rfl) (Nat.le_of_ble_eq_true rfl) ⟨rfl, q_hpe (q_fin [] rfl) (q_fin [] rfl)⟩
    | 9, ht9 =>
      have hx9 : x0 = 34 := hx9
      cases ht9
      have hf := q_in (fun hz9 => absurd (hx9.symm.trans hz9) (by decide)) hf
      have hf := q_in (fun hz9 => absurd (hx9.symm.trans hz9) (by decide)) hf
      have hf := q_in (fun hz9 => absurd (hx9.symm.trans hz9) (by decide)) hf
      have hf := q_in (fun hz9 => absurd (hx9.symm.trans hz9) (by decide)) hf
      have hf := q_in (fun hz9 => absurd (hx9.symm.trans hz9) (by decide)) hf
      have hf := q_in (fun hz9 => absurd (hx9.symm.trans hz9) (by decide)) hf
      have hf := q_in (fun hz9 => absurd (hx9.symm.trans hz9) (by decide)) hf
      have hf := q_in (fun hz9 => absurd (hx9.symm.trans hz9) (by decide)) hf
      have hf := q_in (fun hz9 => absurd (hx9.symm.trans hz9) (by decide)) hf
      have hf := q_ip hx9 hf
      refine q_blk 3 [] (c' := q_kc (t, r, m, z, N, ext, rx, L) I E 5 [some (.int x0), some (.int x1), some (.int x2)] [.int (x1 + x2)] [] []) ok_X15_both rfl q_cn ?_
      cases hf
      exact q_kri ok_X15_both rfl rfl rfl (Nat.le_of_ble_eq_true rfl) (Nat.le_of_ble_eq_true rfl) ⟨rfl, q_hpe (q_fin [] rfl) (q_fin [] rfl)⟩
    | 10, ht9 =>
      have hx9 : x0 = 35 := hx9
      cases ht9
      have hf := q_in (fun hz9 => absurd (hx9.symm.trans hz9) (by decide)) hf
      have hf := q_in (fun hz9 => absurd (hx9.symm.trans hz9) (by decide)) hf
      have hf := q_in (fun hz9 => absurd (hx9.symm.trans hz9) (by decide)) hf
      have hf := q_in (fun hz9 => absurd (hx9.symm.trans hz9) (by decide)) hf
      have hf := q_in (fun hz9 => absurd (hx9.symm.trans hz9) (by decide)) hf
      have hf := q_in (fun hz9 => absurd (hx9.symm.trans hz9) (by decide)) hf
      have hf := q_in (fun hz9 => absurd (hx9.symm.trans hz9) (by decide)) hf
      have hf := q_in (fun hz9 => absurd (hx9.symm.trans hz9) (by decide)) hf
      have hf := q_in (fun hz9 => absurd (hx9.symm.trans hz9) (by decide)) hf
      have hf := q_in (fun hz9 => absurd (hx9.symm.trans hz9) (by decide)) hf
      have hf := q_ip hx9 hf
      refine q_blk 3 [] (c' := q_kc (t, r, m, z, N, ext, rx, L) I E 9 [some (.int x0), some (.int x1), some (.int x2)] [.int (x1 - x2)] [] []) ok_X15_both rfl q_cn ?_
      cases hf
      exact q_kri ok_X15_both rfl rfl rfl (Nat.le_of_ble_eq_true rfl) (Nat.le_of_ble_eq_true rfl) ⟨rfl, q_hpe (q_fin [] rfl) (q_fin [] rfl)⟩
    | 11, ht9 =>
      have hx9 : x0 = 36 := hx9
      cases ht9
      have hf := q_in (fun hz9 => absurd (hx9.symm.trans hz9) (by decide)) hf
      have hf := q_in (fun hz9 => absurd (hx9.symm.trans hz9) (by decide)) hf
      have hf := q_in (fun hz9 => absurd (hx9.symm.trans hz9) (by decide)) hf
      have hf := q_in (fun hz9 => absurd (hx9.symm.trans hz9) (by decide)) hf
      have hf := q_in (fun hz9 => absurd (hx9.symm.trans hz9) (by decide)) hf
      have hf := q_in (fun hz9 => absurd (hx9.symm.trans hz9) (by decide)) hf
      have hf := q_in (fun hz9 => absurd (hx9.symm.trans hz9) (by decide)) hf
      have hf := q_in (fun hz9 => absurd (hx9.symm.trans hz9) (by decide)) hf
      have hf := q_in (fun hz9 => absurd (hx9.symm.trans hz9) (by decide)) hf
      have hf := q_in (fun hz9 => absurd (hx9.symm.trans hz9) (by decide)) hf
      have hf := q_in (fun hz9 => absurd (hx9.symm.trans hz9) (by decide)) hf
      have hf := q_ip hx9 hf
      refine q_blk 3 [] (c' := q_kc (t, r, m, z, N, ext, rx, L) I E 13 [some (.int x0), some (.int x1), some (.int x2)] [.int (x1 * x2)] [] []) ok_X15_both rfl q_cn ?_
      cases hf
      exact q_kri ok_X15_both rfl rfl rfl (Nat.le_of_ble_eq_true rfl) (Nat.le_of_ble_eq_true rfl) ⟨rfl, q_hpe (q_fin [] rfl) (q_fin [] rfl)⟩
    | 12, ht9 =>
      have hx9 : x0 = 37 := hx9
      cases ht9
      have hf := q_in (fun hz9 => absurd (hx9.symm.trans hz9) (by decide)) hf
      have hf := q_in (fun hz9 => absurd (hx9.symm.trans hz9) (by decide)) hf
      have hf := q_in (fun hz9 => absurd (hx9.symm.trans hz9) (by decide)) hf
      have hf := q_in (fun hz9 => absurd (hx9.symm.trans hz9) (by decide)) hf
      have hf := q_in (fun hz9 => absurd (hx9.symm.trans hz9) (by decide)) hf
      have hf := q_in (fun hz9 => absurd (hx9.symm.trans hz9) (by decide)) hf
      have hf := q_in (fun hz9 => absurd (hx9.symm.trans hz9) (by decide)) hf
      have hf := q_in (fun hz9 => absurd (hx9.symm.trans hz9) (by decide)) hf
      have hf := q_in (fun hz9 => absurd (hx9.symm.trans hz9) (by decide)) hf
      have hf := q_in (fun hz9 => absurd (hx9.symm.trans hz9) (by decide)) hf
      have hf := q_in (fun hz9 => absurd (hx9.symm.trans hz9) (by decide)) hf
      have hf := q_in (fun hz9 => absurd (hx9.symm.trans hz9) (by decide)) hf
      have hf := q_ip hx9 hf
      refine q_blf 1 [] (a := q_kc (t, r, m, z, N, ext, rx, L) I E 18 [some (.int x0), some (.int x1), some (.int x2)] [] [] []) (b := q_kc (t, r, m, z, N, ext, rx, L) I E 16 [some (.int x0), some (.int x1), some (.int x2)] [] [] []) (P := ¬ x2 = 0) ok_X15_both rfl q_cn (fun h1 => ?_) (fun h1 => ?_)
      · have hf := q_ip h1 hf
        obtain ⟨u2, hu3, hf⟩ := q_bd hf
        refine q_blk 2 [] (c' := q_kc (t, r, m, z, N, ext, rx, L) I E 20 [some (.int x0), some (.int x1), some (.int x2)] [.int x2, .int x1] [] []) ok_X15_both rfl q_cn ?_
        refine q_kdv (pos' := 21) ok_X15_both rfl (q_nz_ne hu3) rfl ?_
        cases hf
        exact q_kri ok_X15_both rfl rfl rfl (Nat.le_of_ble_eq_true rfl) (Nat.le_of_ble_eq_true rfl) ⟨rfl, q_hpe (q_fin [] rfl) (q_fin [] rfl)⟩
      · have hf := q_in h1 hf
        refine q_blk 2 [] (c' := q_kc (t, r, m, z, N, ext, rx, L) I E 21 [some (.int x0), some (.int x1), some (.int x2)] [.int (0 : Int32)] [] []) ok_X15_both rfl q_cn ?_
        cases hf
        exact q_kri ok_X15_both rfl rfl rfl (Nat.le_of_ble_eq_true rfl) (Nat.le_of_ble_eq_true rfl) ⟨rfl, q_hpe (q_fin [] rfl) (q_fin [] rfl)⟩
    | 13, ht9 =>
      have hx9 : x0 = 38 := hx9
      cases ht9
      have hf := q_in (fun hz9 => absurd (hx9.symm.trans hz9) (by decide)) hf
      have hf := q_in (fun hz9 => absurd (hx9.symm.trans hz9) (by decide)) hf
      have hf := q_in (fun hz9 => absurd (hx9.symm.trans hz9) (by decide)) hf
      have hf := q_in (fun hz9 => absurd (hx9.symm.trans hz9) (by decide)) hf
      have hf := q_in (fun hz9 => absurd (hx9.symm.trans hz9) (by decide)) hf
      have hf := q_in (fun hz9 => absurd (hx9.symm.trans hz9) (by decide)) hf
      have hf := q_in (fun hz9 => absurd (hx9.symm.trans hz9) (by decide)) hf
      have hf := q_in (fun hz9 => absurd (hx9.symm.trans hz9) (by decide)) hf
      have hf := q_in (fun hz9 => absurd (hx9.symm.trans hz9) (by decide)) hf
      have hf := q_in (fun hz9 => absurd (hx9.symm.trans hz9) (by decide)) hf
      have hf := q_in (fun hz9 => absurd (hx9.symm.trans hz9) (by decide)) hf
      have hf := q_in (fun hz9 => absurd (hx9.symm.trans hz9) (by decide)) hf
      have hf := q_in (fun hz9 => absurd (hx9.symm.trans hz9) (by decide)) hf
      have hf := q_ip hx9 hf
      refine q_blf 2 [] (a := q_kc (t, r, m, z, N, ext, rx, L) I E 35 [some (.int x0), some (.int x1), some (.int x2)] [] [] []) (b := q_kc (t, r, m, z, N, ext, rx, L) I E 33 [some (.int x0), some (.int x1), some (.int x2)] [] [] []) (P := x2 ≤ x1) ok_X15_both rfl q_cn (fun h4 => ?_) (fun h4 => ?_)
      · have hf := q_ip h4 hf
        refine q_blk 1 [] (c' := q_kc (t, r, m, z, N, ext, rx, L) I E 36 [some (.int x0), some (.int x1), some (.int x2)] [.int (0 : Int32)] [] []) ok_X15_both rfl q_cn ?_
        cases hf
        exact q_kri ok_X15_both rfl rfl rfl (Nat.le_of_ble_eq_true rfl) (Nat.le_of_ble_eq_true rfl) ⟨rfl, q_hpe (q_fin [] rfl) (q_fin [] rfl)⟩
      · have hf := q_in h4 hf
        refine q_blk 2 [] (c' := q_kc (t, r, m, z, N, ext, rx, L) I E 36 [some (.int x0), some (.int x1), some (.int x2)] [.int (1 : Int32)] [] []) ok_X15_both rfl q_cn ?_
        cases hf
        exact q_kri ok_X15_both rfl rfl rfl (Nat.le_of_ble_eq_true rfl) (Nat.le_of_ble_eq_true rfl) ⟨rfl, q_hpe (q_fin [] rfl) (q_fin [] rfl)⟩
    | 14, ht9 =>
      have hx9 : x0 = 39 := hx9
      cases ht9
      have hf := q_in (fun hz9 => absurd (hx9.symm.trans hz9) (by decide)) hf
      have hf := q_in (fun hz9 => absurd (hx9.symm.trans hz9) (by decide)) hf
      have hf := q_in (fun hz9 => absurd (hx9.symm.trans hz9) (by decide)) hf
      have hf := q_in (fun hz9 => absurd (hx9.symm.trans hz9) (by decide)) hf
      have hf := q_in (fun hz9 => absurd (hx9.symm.trans hz9) (by decide)) hf
      have hf := q_in (fun hz9 => absurd (hx9.symm.trans hz9) (by decide)) hf
      have hf := q_in (fun hz9 => absurd (hx9.symm.trans hz9) (by decide)) hf
      have hf := q_in (fun hz9 => absurd (hx9.symm.trans hz9) (by decide)) hf
      have hf := q_in (fun hz9 => absurd (hx9.symm.trans hz9) (by decide)) hf
      have hf := q_in (fun hz9 => absurd (hx9.symm.trans hz9) (by decide)) hf
      have hf := q_in (fun hz9 => absurd (hx9.symm.trans hz9) (by decide)) hf
      have hf := q_in (fun hz9 => absurd (hx9.symm.trans hz9) (by decide)) hf
      have hf := q_in (fun hz9 => absurd (hx9.symm.trans hz9) (by decide)) hf
      have hf := q_in (fun hz9 => absurd (hx9.symm.trans hz9) (by decide)) hf
      have hf := q_ip hx9 hf
      refine q_blf 2 [] (a := q_kc (t, r, m, z, N, ext, rx, L) I E 42 [some (.int x0), some (.int x1), some (.int x2)] [] [] []) (b := q_kc (t, r, m, z, N, ext, rx, L) I E 40 [some (.int x0), some (.int x1), some (.int x2)] [] [] []) (P := x1 ≤ x2) ok_X15_both rfl q_cn (fun h5 => ?_) (fun h5 => ?_)
      · have hf := q_ip h5 hf
        refine q_blk 1 [] (c' := q_kc (t, r, m, z, N, ext, rx, L) I E 43 [some (.int x0), some (.int x1), some (.int x2)] [.int (0 : Int32)] [] []) ok_X15_both rfl q_cn ?_
        cases hf
        exact q_kri ok_X15_both rfl rfl rfl (Nat.le_of_ble_eq_true rfl) (Nat.le_of_ble_eq_true rfl) ⟨rfl, q_hpe (q_fin [] rfl) (q_fin [] rfl)⟩
      · have hf := q_in h5 hf
        refine q_blk 2 [] (c' := q_kc (t, r, m, z, N, ext, rx, L) I E 43 [some (.int x0), some (.int x1), some (.int x2)] [.int (1 : Int32)] [] []) ok_X15_both rfl q_cn ?_
        cases hf
        exact q_kri ok_X15_both rfl rfl rfl (Nat.le_of_ble_eq_true rfl) (Nat.le_of_ble_eq_true rfl) ⟨rfl, q_hpe (q_fin [] rfl) (q_fin [] rfl)⟩
    | 15, ht9 =>
      have hx9 : x0 = 40 := hx9
      cases ht9
      have hf := q_in (fun hz9 => absurd (hx9.symm.trans hz9) (by decide)) hf
      have hf := q_in (fun hz9 => absurd (hx9.symm.trans hz9) (by decide)) hf
      have hf := q_in (fun hz9 => absurd (hx9.symm.trans hz9) (by decide)) hf
      have hf := q_in (fun hz9 => absurd (hx9.symm.trans hz9) (by decide)) hf
      have hf := q_in (fun hz9 => absurd (hx9.symm.trans hz9) (by decide)) hf
      have hf := q_in (fun hz9 => absurd (hx9.symm.trans hz9) (by decide)) hf
      have hf := q_in (fun hz9 => absurd (hx9.symm.trans hz9) (by decide)) hf
      have hf := q_in (fun hz9 => absurd (hx9.symm.trans hz9) (by decide)) hf
      have hf := q_in (fun hz9 => absurd (hx9.symm.trans hz9) (by decide)) hf
      have hf := q_in (fun hz9 => absurd (hx9.symm.trans hz9) (by decide)) hf
      have hf := q_in (fun hz9 => absurd (hx9.symm.trans hz9) (by decide)) hf
      have hf := q_in (fun hz9 => absurd (hx9.symm.trans hz9) (by decide)) hf
      have hf := q_in (fun hz9 => absurd (hx9.symm.trans hz9) (by decide)) hf
      have hf := q_in (fun hz9 => absurd (hx9.symm.trans hz9) (by decide)) hf
      have hf := q_in (fun hz9 => absurd (hx9.symm.trans hz9) (by decide)) hf
      have hf := q_ip hx9 hf
      refine q_blk 3 [] (c' := q_kc (t, r, m, z, N, ext, rx, L) I E 72 [some (.int x0), some (.int x1), some (.int x2)] [.int (x1 ||| x2)] [] []) ok_X15_both rfl q_cn ?_
      cases hf
      exact q_kri ok_X15_both rfl rfl rfl (Nat.le_of_ble_eq_true rfl) (Nat.le_of_ble_eq_true rfl) ⟨rfl, q_hpe (q_fin [] rfl) (q_fin [] rfl)⟩
    | 16, ht9 =>
      have hx9 : x0 = 41 := hx9
      cases ht9
      have hf := q_in (fun hz9 => absurd (hx9.symm.trans hz9) (by decide)) hf
      have hf := q_in (fun hz9 => absurd (hx9.symm.trans hz9) (by decide)) hf
      have hf := q_in (fun hz9 => absurd (hx9.symm.trans hz9) (by decide)) hf
      have hf := q_in (fun hz9 => absurd (hx9.symm.trans hz9) (by decide)) hf
      have hf := q_in (fun hz9 => absurd (hx9.symm.trans hz9) (by decide)) hf
      have hf := q_in (fun hz9 => absurd (hx9.symm.trans hz9) (by decide)) hf
      have hf := q_in (fun hz9 => absurd (hx9.symm.trans hz9) (by decide)) hf
      have hf := q_in (fun hz9 => absurd (hx9.symm.trans hz9) (by decide)) hf
      have hf := q_in (fun hz9 => absurd (hx9.symm.trans hz9) (by decide)) hf
      have hf := q_in (fun hz9 => absurd (hx9.symm.trans hz9) (by decide)) hf
      have hf := q_in (fun hz9 => absurd (hx9.symm.trans hz9) (by decide)) hf
      have hf := q_in (fun hz9 => absurd (hx9.symm.trans hz9) (by decide)) hf
      have hf := q_in (fun hz9 => absurd (hx9.symm.trans hz9) (by decide)) hf
      have hf := q_in (fun hz9 => absurd (hx9.symm.trans hz9) (by decide)) hf
      have hf := q_in (fun hz9 => absurd (hx9.symm.trans hz9) (by decide)) hf
      have hf := q_in (fun hz9 => absurd (hx9.symm.trans hz9) (by decide)) hf
      have hf := q_ip hx9 hf
      refine q_blk 3 [] (c' := q_kc (t, r, m, z, N, ext, rx, L) I E 72 [some (.int x0), some (.int x1), some (.int x2)] [.int (x1 ||| x2)] [] []) ok_X15_both rfl q_cn ?_
      cases hf
      exact q_kri ok_X15_both rfl rfl rfl (Nat.le_of_ble_eq_true rfl) (Nat.le_of_ble_eq_true rfl) ⟨rfl, q_hpe (q_fin [] rfl) (q_fin [] rfl)⟩
    | 17, ht9 =>
      have hx9 : x0 = 42 := hx9
      cases ht9
      have hf := q_in (fun hz9 => absurd (hx9.symm.trans hz9) (by decide)) hf
      have hf := q_in (fun hz9 => absurd (hx9.symm.trans hz9) (by decide)) hf
      have hf := q_in (fun hz9 => absurd (hx9.symm.trans hz9) (by decide)) hf
      have hf := q_in (fun hz9 => absurd (hx9.symm.trans hz9) (by decide)) hf
      have hf := q_in (fun hz9 => absurd (hx9.symm.trans hz9) (by decide)) hf
      have hf := q_in (fun hz9 => absurd (hx9.symm.trans hz9) (by decide)) hf
      have hf := q_in (fun hz9 => absurd (hx9.symm.trans hz9) (by decide)) hf
      have hf := q_in (fun hz9 => absurd (hx9.symm.trans hz9) (by decide)) hf
      have hf := q_in (fun hz9 => absurd (hx9.symm.trans hz9) (by decide)) hf
      have hf := q_in (fun hz9 => absurd (hx9.symm.trans hz9) (by decide)) hf
      have hf := q_in (fun hz9 => absurd (hx9.symm.trans hz9) (by decide)) hf
      have hf := q_in (fun hz9 => absurd (hx9.symm.trans hz9) (by decide)) hf
      have hf := q_in (fun hz9 => absurd (hx9.symm.trans hz9) (by decide)) hf
      have hf := q_in (fun hz9 => absurd (hx9.symm.trans hz9) (by decide)) hf
      have hf := q_in (fun hz9 => absurd (hx9.symm.trans hz9) (by decide)) hf
      have hf := q_in (fun hz9 => absurd (hx9.symm.trans hz9) (by decide)) hf
      have hf := q_in (fun hz9 => absurd (hx9.symm.trans hz9) (by decide)) hf
      have hf := q_ip hx9 hf
      refine q_blf 2 [] (a := q_kc (t, r, m, z, N, ext, rx, L) I E 49 [some (.int x0), some (.int x1), some (.int x2)] [] [] []) (b := q_kc (t, r, m, z, N, ext, rx, L) I E 47 [some (.int x0), some (.int x1), some (.int x2)] [] [] []) (P := ¬ x1 = x2) ok_X15_both rfl q_cn (fun h6 => ?_) (fun h6 => ?_)
      · have hf := q_ip h6 hf
        refine q_blk 1 [] (c' := q_kc (t, r, m, z, N, ext, rx, L) I E 50 [some (.int x0), some (.int x1), some (.int x2)] [.int (0 : Int32)] [] []) ok_X15_both rfl q_cn ?_
        cases hf
        exact q_kri ok_X15_both rfl rfl rfl (Nat.le_of_ble_eq_true rfl) (Nat.le_of_ble_eq_true rfl) ⟨rfl, q_hpe (q_fin [] rfl) (q_fin [] rfl)⟩
      · have hf := q_in h6 hf
        refine q_blk 2 [] (c' := q_kc (t, r, m, z, N, ext, rx, L) I E 50 [some (.int x0), some (.int x1), some (.int x2)] [.int (1 : Int32)] [] []) ok_X15_both rfl q_cn ?_
        cases hf
        exact q_kri ok_X15_both rfl rfl rfl (Nat.le_of_ble_eq_true rfl) (Nat.le_of_ble_eq_true rfl) ⟨rfl, q_hpe (q_fin [] rfl) (q_fin [] rfl)⟩
    | 18, ht9 =>
      have hx9 : x0 = 43 := hx9
      cases ht9
      have hf := q_in (fun hz9 => absurd (hx9.symm.trans hz9) (by decide)) hf
      have hf := q_in (fun hz9 => absurd (hx9.symm.trans hz9) (by decide)) hf
      have hf := q_in (fun hz9 => absurd (hx9.symm.trans hz9) (by decide)) hf
      have hf := q_in (fun hz9 => absurd (hx9.symm.trans hz9) (by decide)) hf
      have hf := q_in (fun hz9 => absurd (hx9.symm.trans hz9) (by decide)) hf
      have hf := q_in (fun hz9 => absurd (hx9.symm.trans hz9) (by decide)) hf
      have hf := q_in (fun hz9 => absurd (hx9.symm.trans hz9) (by decide)) hf
      have hf := q_in (fun hz9 => absurd (hx9.symm.trans hz9) (by decide)) hf
      have hf := q_in (fun hz9 => absurd (hx9.symm.trans hz9) (by decide)) hf
      have hf := q_in (fun hz9 => absurd (hx9.symm.trans hz9) (by decide)) hf
      have hf := q_in (fun hz9 => absurd (hx9.symm.trans hz9) (by decide)) hf
      have hf := q_in (fun hz9 => absurd (hx9.symm.trans hz9) (by decide)) hf
      have hf := q_in (fun hz9 => absurd (hx9.symm.trans hz9) (by decide)) hf
      have hf := q_in (fun hz9 => absurd (hx9.symm.trans hz9) (by decide)) hf
      have hf := q_in (fun hz9 => absurd (hx9.symm.trans hz9) (by decide)) hf
      have hf := q_in (fun hz9 => absurd (hx9.symm.trans hz9) (by decide)) hf
      have hf := q_in (fun hz9 => absurd (hx9.symm.trans hz9) (by decide)) hf
      have hf := q_in (fun hz9 => absurd (hx9.symm.trans hz9) (by decide)) hf
      have hf := q_ip hx9 hf
      refine q_blf 2 [] (a := q_kc (t, r, m, z, N, ext, rx, L) I E 56 [some (.int x0), some (.int x1), some (.int x2)] [] [] []) (b := q_kc (t, r, m, z, N, ext, rx, L) I E 54 [some (.int x0), some (.int x1), some (.int x2)] [] [] []) (P := x2 < x1) ok_X15_both rfl q_cn (fun h7 => ?_) (fun h7 => ?_)
      · have hf := q_ip h7 hf
        refine q_blk 1 [] (c' := q_kc (t, r, m, z, N, ext, rx, L) I E 57 [some (.int x0), some (.int x1), some (.int x2)] [.int (0 : Int32)] [] []) ok_X15_both rfl q_cn ?_
        cases hf
        exact q_kri ok_X15_both rfl rfl rfl (Nat.le_of_ble_eq_true rfl) (Nat.le_of_ble_eq_true rfl) ⟨rfl, q_hpe (q_fin [] rfl) (q_fin [] rfl)⟩
      · have hf := q_in h7 hf
        refine q_blk 2 [] (c' := q_kc (t, r, m, z, N, ext, rx, L) I E 57 [some (.int x0), some (.int x1), some (.int x2)] [.int (1 : Int32)] [] []) ok_X15_both rfl q_cn ?_
        cases hf
        exact q_kri ok_X15_both rfl rfl rfl (Nat.le_of_ble_eq_true rfl) (Nat.le_of_ble_eq_true rfl) ⟨rfl, q_hpe (q_fin [] rfl) (q_fin [] rfl)⟩
    | 19, ht9 =>
      have hx9 : x0 = 44 := hx9
      cases ht9
      have hf := q_in (fun hz9 => absurd (hx9.symm.trans hz9) (by decide)) hf
      have hf := q_in (fun hz9 => absurd (hx9.symm.trans hz9) (by decide)) hf
      have hf := q_in (fun hz9 => absurd (hx9.symm.trans hz9) (by decide)) hf
      have hf := q_in (fun hz9 => absurd (hx9.symm.trans hz9) (by decide)) hf
      have hf := q_in (fun hz9 => absurd (hx9.symm.trans hz9) (by decide)) hf
      have hf := q_in (fun hz9 => absurd (hx9.symm.trans hz9) (by decide)) hf
      have hf := q_in (fun hz9 => absurd (hx9.symm.trans hz9) (by decide)) hf
      have hf := q_in (fun hz9 => absurd (hx9.symm.trans hz9) (by decide)) hf
      have hf := q_in (fun hz9 => absurd (hx9.symm.trans hz9) (by decide)) hf
      have hf := q_in (fun hz9 => absurd (hx9.symm.trans hz9) (by decide)) hf
      have hf := q_in (fun hz9 => absurd (hx9.symm.trans hz9) (by decide)) hf
      have hf := q_in (fun hz9 => absurd (hx9.symm.trans hz9) (by decide)) hf
      have hf := q_in (fun hz9 => absurd (hx9.symm.trans hz9) (by decide)) hf
      have hf := q_in (fun hz9 => absurd (hx9.symm.trans hz9) (by decide)) hf
      have hf := q_in (fun hz9 => absurd (hx9.symm.trans hz9) (by decide)) hf
      have hf := q_in (fun hz9 => absurd (hx9.symm.trans hz9) (by decide)) hf
      have hf := q_in (fun hz9 => absurd (hx9.symm.trans hz9) (by decide)) hf
      have hf := q_in (fun hz9 => absurd (hx9.symm.trans hz9) (by decide)) hf
      have hf := q_in (fun hz9 => absurd (hx9.symm.trans hz9) (by decide)) hf
      have hf := q_ip hx9 hf
      refine q_blf 2 [] (a := q_kc (t, r, m, z, N, ext, rx, L) I E 63 [some (.int x0), some (.int x1), some (.int x2)] [] [] []) (b := q_kc (t, r, m, z, N, ext, rx, L) I E 61 [some (.int x0), some (.int x1), some (.int x2)] [] [] []) (P := x1 < x2) ok_X15_both rfl q_cn (fun h8 => ?_) (fun h8 => ?_)
      · have hf := q_ip h8 hf
        refine q_blk 1 [] (c' := q_kc (t, r, m, z, N, ext, rx, L) I E 64 [some (.int x0), some (.int x1), some (.int x2)] [.int (0 : Int32)] [] []) ok_X15_both rfl q_cn ?_
        cases hf
        exact q_kri ok_X15_both rfl rfl rfl (Nat.le_of_ble_eq_true rfl) (Nat.le_of_ble_eq_true rfl) ⟨rfl, q_hpe (q_fin [] rfl) (q_fin [] rfl)⟩
      · have hf := q_in h8 hf
        refine q_blk 2 [] (c' := q_kc (t, r, m, z, N, ext, rx, L) I E 64 [some (.int x0), some (.int x1), some (.int x2)] [.int (1 : Int32)] [] []) ok_X15_both rfl q_cn ?_
        cases hf
        exact q_kri ok_X15_both rfl rfl rfl (Nat.le_of_ble_eq_true rfl) (Nat.le_of_ble_eq_true rfl) ⟨rfl, q_hpe (q_fin [] rfl) (q_fin [] rfl)⟩
    | z9 + 20, ht9 => cases ht9
  · have hf := q_in (hx9 0 (by decide)) hf
    have hf := q_in (hx9 1 (by decide)) hf
    have hf := q_in (hx9 2 (by decide)) hf
    have hf := q_in (hx9 3 (by decide)) hf
    have hf := q_in (hx9 4 (by decide)) hf
    have hf := q_in (hx9 5 (by decide)) hf
    have hf := q_in (hx9 6 (by decide)) hf
    have hf := q_in (hx9 7 (by decide)) hf
    have hf := q_in (hx9 8 (by decide)) hf
    have hf := q_in (hx9 9 (by decide)) hf
    have hf := q_in (hx9 10 (by decide)) hf
    have hf := q_in (hx9 11 (by decide)) hf
    have hf := q_in (hx9 12 (by decide)) hf
    have hf := q_in (hx9 13 (by decide)) hf
    have hf := q_in (hx9 14 (by decide)) hf
    have hf := q_in (hx9 15 (by decide)) hf
    have hf := q_in (hx9 16 (by decide)) hf
    have hf := q_in (hx9 17 (by decide)) hf
    have hf := q_in (hx9 18 (by decide)) hf
    have hf := q_in (hx9 19 (by decide)) hf
    refine q_blk 3 [] (c' := q_kc (t, r, m, z, N, ext, rx, L) I E 72 [some (.int x0), some (.int x1), some (.int x2)] [.int (x1 ||| x2)] [] []) ok_X15_both rfl q_cn ?_
    cases hf
    exact q_kri ok_X15_both rfl rfl rfl (Nat.le_of_ble_eq_true rfl) (Nat.le_of_ble_eq_true rfl) ⟨rfl, q_hpe (q_fin [] rfl) (q_fin [] rfl)⟩
set_option maxHeartbeats 4000000 in
theorem lp_X14_carryOut_L4_512 {g : q_G} {d mc ms : Nat} {h0 : q_H} {Q : (Option Value ⊕ String) → q_H → Prop} {k n : Nat} {t : Nat} {r : Nat} {m : Nat} {z : Nat} {N : Nat} {ext : Nat → q_Sh} {rx : Nat → Nat → Option Nat} {L : Nat → Nat → Int64} (hd : 4 ≤ d) (hk : k ≤ mc) (hn : n ≤ ms)  {v2 : Int32} : ∀ (fu : Nat) {I : Nat → Nat → Int32} {E : Nat → Nat → Option Nat} {v3 : Int32} {v4 : Int32} {r0 : (Nat → Int32)} (hf : f_X14_carryOut_L4 (I 499) (I 507) (I 512) (I 513) (I 514) (I 516) (I 518) v2 fu (I 509) v3 v4 = some r0) (hK0 : q_J g m_X14_carryOut d mc ms h0 [] Q k n (q_kc (t, r, m, z, N, ext, rx, L) I E 85 [some (.ref 512), none, none, none, none, none, none] [] [(509, r0)] [])), q_J g m_X14_carryOut d mc ms h0 [] Q k n (4, [some (.ref 512), none, some (.int v2), some (.int v3), some (.int v4), none, none], [], q_hp (t, r, m, z, N, ext, rx, L) I E) := by
  intro fu
  induction fu with
  | zero =>
    intro I E v3 v4 r0 hf hK0
    rw [f_X14_carryOut_L4] at hf
    cases hf
  | succ fu ih =>
    intro I E v3 v4 r0 hf hK0
    rw [f_X14_carryOut_L4] at hf
    change q_J g m_X14_carryOut d mc ms h0 [] Q k n (q_kc (t, r, m, z, N, ext, rx, L) I E 4 [some (.ref 512), none, some (.int v2), some (.int v3), some (.int v4), none, none] [] [] [])
    refine q_blf 2 [] (a := q_kc (t, r, m, z, N, ext, rx, L) I E 85 [some (.ref 512), none, some (.int v2), some (.int v3), some (.int v4), none, none] [] [] []) (b := q_kc (t, r, m, z, N, ext, rx, L) I E 7 [some (.ref 512), none, some (.int v2), some (.int v3), some (.int v4), none, none] [] [] []) (P := v2 ≤ v4) ok_X14_carryOut rfl q_cn (fun h1 => ?_) (fun h1 => ?_)
    · have hf := q_ip h1 hf
      refine q_less (ls' := [some (.ref 512), none, none, none, none, none, none]) (q_sb2 (q_sb1 (q_sb1 (q_sb1 (q_sb1 (q_sb1 (q_sb1 q_sb0))))))) ?_
      cases hf
      exact q_Jpad [509] [] rfl rfl hK0
    · have hf := q_in h1 hf
      obtain ⟨j2, hj2, hf⟩ := q_bd hf
      refine q_blk 9 [j2] (c' := q_kc (t, r, m, z, N, ext, rx, L) I E 16 [some (.ref 512), none, some (.int v2), some (.int v3), some (.int (v4 + 1)), some (.int ((I 507) j2)), none] [.int ((I 507) j2)] [] []) ok_X14_carryOut rfl (q_cc hj2 q_cn) ?_
      obtain ⟨r3, hr3, hf⟩ := q_bd hf
      refine q_kS (M2 := m_X15_taken) (As := [.int ((I 507) j2)]) (v2 := some (.int r3)) ok_X14_carryOut ok_X15_taken cs_X15_taken (ct_X15_taken (d := 1) (Nat.le_refl _) hr3) rfl rfl (Or.inr ⟨_, rfl⟩) (Nat.le_trans (Nat.le_of_ble_eq_true rfl) hd) hk hn (Nat.le_of_ble_eq_true rfl) (fun x hx => absurd hx List.not_mem_nil) (q_nmL0 _) (q_nmS0 _) rfl (pos' := 17) (st' := [.int r3]) (lI' := []) (lE' := []) rfl rfl rfl rfl ?_
      refine q_blf 2 [] (a := q_kc (t, r, m, z, N, ext, rx, L) I E 35 [some (.ref 512), none, some (.int v2), some (.int v3), some (.int (v4 + 1)), some (.int ((I 507) j2)), some (.int r3)] [] [] []) (b := q_kc (t, r, m, z, N, ext, rx, L) I E 20 [some (.ref 512), none, some (.int v2), some (.int v3), some (.int (v4 + 1)), some (.int ((I 507) j2)), some (.int r3)] [] [] []) (P := r3 < 0) ok_X14_carryOut rfl q_cn (fun h4 => ?_) (fun h4 => ?_)
      · have hf := q_ip h4 hf
        refine q_blf 2 [] (a := q_kc (t, r, m, z, N, ext, rx, L) I E 41 [some (.ref 512), none, some (.int v2), some (.int v3), some (.int (v4 + 1)), some (.int ((I 507) j2)), some (.int r3)] [] [] []) (b := q_kc (t, r, m, z, N, ext, rx, L) I E 38 [some (.ref 512), none, some (.int v2), some (.int v3), some (.int (v4 + 1)), some (.int ((I 507) j2)), some (.int r3)] [] [] []) (P := ((I 507) j2) = (33 : Int32)) ok_X14_carryOut rfl q_cn (fun h5 => ?_) (fun h5 => ?_)
        · have hf := q_ip h5 hf
          refine q_blf 6 [] (a := q_kc (t, r, m, z, N, ext, rx, L) I E 55 [some (.ref 512), none, some (.int v2), some (.int v3), some (.int (v4 + 1)), some (.int ((I 507) j2)), some (.int r3)] [.int v3, .ref 509] [] []) (b := q_kc (t, r, m, z, N, ext, rx, L) I E 48 [some (.ref 512), none, some (.int v2), some (.int v3), some (.int (v4 + 1)), some (.int ((I 507) j2)), some (.int r3)] [.int v3, .ref 509] [] []) (P := ¬ ((I 507) j2) = (33 : Int32)) ok_X14_carryOut rfl q_cn (fun h6 => ?_) (fun h6 => ?_)
          · have hf := q_ip h6 hf
            obtain ⟨j7, hj7, hf⟩ := q_bd hf
            obtain ⟨j8, hj8, hf⟩ := q_bd hf
            refine q_blk 10 [j7, j8] (c' := q_kc (t, r, m, z, N, ext, rx, L) I E 4 [some (.ref 512), none, some (.int v2), some (.int v3), some (.int (v4 + 1)), some (.int ((I 507) j2)), some (.int r3)] [] [(509, (q_up (I 509) j8 ((1 : Int32) - ((I 509) j7))))] []) ok_X14_carryOut rfl (q_cc hj8 (q_cc hj7 q_cn)) ?_
            refine q_less (ls' := [some (.ref 512), none, some (.int v2), some (.int v3), some (.int (v4 + 1)), none, none]) (q_sb2 (q_sb1 (q_sb2 (q_sb2 (q_sb2 (q_sb1 (q_sb1 q_sb0))))))) ?_
            exact ih (I := q_ws I [(509, (q_up (I 509) j8 ((1 : Int32) - ((I 509) j7))))]) (E := q_ws E []) hf (q_Jmrg rfl rfl hK0)
          · have hf := q_in h6 hf
            obtain ⟨j9, hj9, hf⟩ := q_bd hf
            obtain ⟨j10, hj10, hf⟩ := q_bd hf
            refine q_blk 10 [j9, j10] (c' := q_kc (t, r, m, z, N, ext, rx, L) I E 4 [some (.ref 512), none, some (.int v2), some (.int v3), some (.int (v4 + 1)), some (.int ((I 507) j2)), some (.int r3)] [] [(509, (q_up (I 509) j10 (-((I 509) j9))))] []) ok_X14_carryOut rfl (q_cc hj10 (q_cc hj9 q_cn)) ?_
            refine q_less (ls' := [some (.ref 512), none, some (.int v2), some (.int v3), some (.int (v4 + 1)), none, none]) (q_sb2 (q_sb1 (q_sb2 (q_sb2 (q_sb2 (q_sb1 (q_sb1 q_sb0))))))) ?_
            exact ih (I := q_ws I [(509, (q_up (I 509) j10 (-((I 509) j9))))]) (E := q_ws E []) hf (q_Jmrg rfl rfl hK0)
        · have hf := q_in h5 hf
          refine q_blf 2 [] (a := q_kc (t, r, m, z, N, ext, rx, L) I E 64 [some (.ref 512), none, some (.int v2), some (.int v3), some (.int (v4 + 1)), some (.int ((I 507) j2)), some (.int r3)] [] [] []) (b := q_kc (t, r, m, z, N, ext, rx, L) I E 41 [some (.ref 512), none, some (.int v2), some (.int v3), some (.int (v4 + 1)), some (.int ((I 507) j2)), some (.int r3)] [] [] []) (P := ¬ ((I 507) j2) = (24 : Int32)) ok_X14_carryOut rfl q_cn (fun h11 => ?_) (fun h11 => ?_)
          · have hf := q_ip h11 hf
            obtain ⟨j12, hj12, hf⟩ := q_bd hf
            obtain ⟨j13, hj13, hf⟩ := q_bd hf
            refine q_blk 18 [j12, j13] (c' := q_kc (t, r, m, z, N, ext, rx, L) I E 82 [some (.ref 512), none, some (.int v2), some (.int (v3 + (-1))), some (.int (v4 + 1)), some (.int ((I 507) j2)), some (.int r3)] [.int ((I 509) j13), .int ((I 509) j12), .int ((I 507) j2), .int (v3 + (-1)), .ref 509] [] []) ok_X14_carryOut rfl (q_cc hj13 (q_cc hj12 q_cn)) ?_
            obtain ⟨r14, hr14, hf⟩ := q_bd hf
            refine q_kS (M2 := m_X15_both) (As := [.int ((I 507) j2), .int ((I 509) j12), .int ((I 509) j13)]) (v2 := some (.int r14)) ok_X14_carryOut ok_X15_both cs_X15_both (ct_X15_both (d := 2) (Nat.le_refl _) hr14) rfl rfl (Or.inr ⟨_, rfl⟩) (Nat.le_trans (Nat.le_of_ble_eq_true rfl) hd) hk hn (Nat.le_of_ble_eq_true rfl) (fun x hx => absurd hx List.not_mem_nil) (q_nmL0 _) (q_nmS0 _) rfl (pos' := 83) (st' := [.int r14, .int (v3 + (-1)), .ref 509]) (lI' := []) (lE' := []) rfl rfl rfl rfl ?_
            obtain ⟨j15, hj15, hf⟩ := q_bd hf
            refine q_blk 2 [j15] (c' := q_kc (t, r, m, z, N, ext, rx, L) I E 4 [some (.ref 512), none, some (.int v2), some (.int (v3 + (-1))), some (.int (v4 + 1)), some (.int ((I 507) j2)), some (.int r3)] [] [(509, (q_up (I 509) j15 r14))] []) ok_X14_carryOut rfl (q_cc hj15 q_cn) ?_
            refine q_less (ls' := [some (.ref 512), none, some (.int v2), some (.int (v3 + (-1))), some (.int (v4 + 1)), none, none]) (q_sb2 (q_sb1 (q_sb2 (q_sb2 (q_sb2 (q_sb1 (q_sb1 q_sb0))))))) ?_
            exact ih (I := q_ws I [(509, (q_up (I 509) j15 r14))]) (E := q_ws E []) hf (q_Jmrg rfl rfl hK0)
          · have hf := q_in h11 hf
            refine q_blf 6 [] (a := q_kc (t, r, m, z, N, ext, rx, L) I E 55 [some (.ref 512), none, some (.int v2), some (.int v3), some (.int (v4 + 1)), some (.int ((I 507) j2)), some (.int r3)] [.int v3, .ref 509] [] []) (b := q_kc (t, r, m, z, N, ext, rx, L) I E 48 [some (.ref 512), none, some (.int v2), some (.int v3), some (.int (v4 + 1)), some (.int ((I 507) j2)), some (.int r3)] [.int v3, .ref 509] [] []) (P := ¬ ((I 507) j2) = (33 : Int32)) ok_X14_carryOut rfl q_cn (fun h16 => ?_) (fun h16 => ?_)
            · have hf := q_ip h16 hf
              obtain ⟨j17, hj17, hf⟩ := q_bd hf
              obtain ⟨j18, hj18, hf⟩ := q_bd hf
              refine q_blk 10 [j17, j18] (c' := q_kc (t, r, m, z, N, ext, rx, L) I E 4 [some (.ref 512), none, some (.int v2), some (.int v3), some (.int (v4 + 1)), some (.int ((I 507) j2)), some (.int r3)] [] [(509, (q_up (I 509) j18 ((1 : Int32) - ((I 509) j17))))] []) ok_X14_carryOut rfl (q_cc hj18 (q_cc hj17 q_cn)) ?_
              refine q_less (ls' := [some (.ref 512), none, some (.int v2), some (.int v3), some (.int (v4 + 1)), none, none]) (q_sb2 (q_sb1 (q_sb2 (q_sb2 (q_sb2 (q_sb1 (q_sb1 q_sb0))))))) ?_
              exact ih (I := q_ws I [(509, (q_up (I 509) j18 ((1 : Int32) - ((I 509) j17))))]) (E := q_ws E []) hf (q_Jmrg rfl rfl hK0)
            · have hf := q_in h16 hf
              obtain ⟨j19, hj19, hf⟩ := q_bd hf
              obtain ⟨j20, hj20, hf⟩ := q_bd hf
              refine q_blk 10 [j19, j20] (c' := q_kc (t, r, m, z, N, ext, rx, L) I E 4 [some (.ref 512), none, some (.int v2), some (.int v3), some (.int (v4 + 1)), some (.int ((I 507) j2)), some (.int r3)] [] [(509, (q_up (I 509) j20 (-((I 509) j19))))] []) ok_X14_carryOut rfl (q_cc hj20 (q_cc hj19 q_cn)) ?_
              refine q_less (ls' := [some (.ref 512), none, some (.int v2), some (.int v3), some (.int (v4 + 1)), none, none]) (q_sb2 (q_sb1 (q_sb2 (q_sb2 (q_sb2 (q_sb1 (q_sb1 q_sb0))))))) ?_
              exact ih (I := q_ws I [(509, (q_up (I 509) j20 (-((I 509) j19))))]) (E := q_ws E []) hf (q_Jmrg rfl rfl hK0)
      · have hf := q_in h4 hf
        refine q_blk 8 [] (c' := q_kc (t, r, m, z, N, ext, rx, L) I E 28 [some (.ref 512), none, some (.int v2), some (.int (v3 + 1)), some (.int (v4 + 1)), some (.int ((I 507) j2)), some (.int r3)] [.int (v4 + 1), .int ((I 507) j2), .ref 512, .int (v3 + 1), .ref 509] [] []) ok_X14_carryOut rfl q_cn ?_
        obtain ⟨r21, hr21, hf⟩ := q_bd hf
        refine q_kV (M2 := m_X14_pushed) (As := [.int ((I 507) j2), .int (v4 + 1)]) (b := 512) (v2 := some (.int r21)) ok_X14_carryOut ok_X14_pushed cv_X14_pushed (ct_X14_pushed_512 (d := 3) (Nat.le_refl _) hr21) rfl rfl (Or.inl rfl) rfl rfl rfl rfl (Nat.le_trans (Nat.le_of_ble_eq_true rfl) hd) hk hn (Nat.le_of_ble_eq_true rfl) (fun x hx => absurd hx List.not_mem_nil) (q_nmL0 _) (q_nmS0 _) rfl (pos' := 29) (st' := [.int r21, .int (v3 + 1), .ref 509]) (lI' := []) (lE' := []) rfl rfl rfl rfl ?_
        obtain ⟨j22, hj22, hf⟩ := q_bd hf
        refine q_blk 7 [j22] (c' := q_kc (t, r, m, z, N, ext, rx, L) I E 4 [some (.ref 512), none, some (.int v2), some (.int (v3 + 1)), some (.int ((v4 + 1) + r3)), some (.int ((I 507) j2)), some (.int r3)] [] [(509, (q_up (I 509) j22 r21))] []) ok_X14_carryOut rfl (q_cc hj22 q_cn) ?_
        refine q_less (ls' := [some (.ref 512), none, some (.int v2), some (.int (v3 + 1)), some (.int ((v4 + 1) + r3)), none, none]) (q_sb2 (q_sb1 (q_sb2 (q_sb2 (q_sb2 (q_sb1 (q_sb1 q_sb0))))))) ?_
        exact ih (I := q_ws I [(509, (q_up (I 509) j22 r21))]) (E := q_ws E []) hf (q_Jmrg rfl rfl hK0)
set_option maxHeartbeats 4000000 in
theorem ct_X14_carryOut_512 {g : q_G} {t : Nat} {r : Nat} {m : Nat} {z : Nat} {N : Nat} {ext : Nat → q_Sh} {rx : Nat → Nat → Option Nat} {L : Nat → Nat → Int64} {d : Nat} (hd : 4 ≤ d)  {I : Nat → Nat → Int32} {E : Nat → Nat → Option Nat} {x1 : Int32} {x2 : Int32} {r0 : Int32 × (Nat → Int32)} (hf : f_X14_carryOut (I 499) (I 507) (I 509) (I 512) (I 513) (I 514) (I 516) (I 518) x1 x2 = some r0) : q_Ct g m_X14_carryOut d 0 0 [] [.ref 512, .int x1, .int x2] (q_hp (t, r, m, z, N, ext, rx, L) I E) (fun o h' => o = .inl (some (.int r0.1)) ∧ h' = q_hp (t, r, m, z, N, ext, rx, L) (q_ws I [(509, r0.2)]) (q_ws E [])) := by
  rw [f_X14_carryOut] at hf
  refine q_Ct_of ok_X14_carryOut (Nat.le_of_ble_eq_true rfl) ?_ _ rfl rfl
  change q_J g m_X14_carryOut d 0 0 _ [] _ 0 0 (q_kc (t, r, m, z, N, ext, rx, L) I E 0 [some (.ref 512), some (.int x1), some (.int x2), none, none, none, none] [] [] [])
  refine q_blk 4 [] (c' := q_kc (t, r, m, z, N, ext, rx, L) I E 4 [some (.ref 512), some (.int x1), some (.int x2), some (.int (-1 : Int32)), some (.int x1), none, none] [] [] []) ok_X14_carryOut rfl q_cn ?_
  refine q_less (ls' := [some (.ref 512), none, some (.int x2), some (.int (-1 : Int32)), some (.int x1), none, none]) (q_sb2 (q_sb1 (q_sb2 (q_sb2 (q_sb2 (q_sb1 (q_sb1 q_sb0))))))) ?_
  obtain ⟨r23, hr23, hf⟩ := q_bd hf
  refine lp_X14_carryOut_L4_512 (I := q_ws I []) (E := q_ws E []) hd (Nat.le_of_ble_eq_true rfl) (Nat.le_of_ble_eq_true rfl) 4096 hr23 ?_
  refine q_Jmrg (lI' := [(509, r23)]) (lE' := []) rfl rfl ?_
  obtain ⟨j24, hj24, hf⟩ := q_bd hf
  refine q_blk 5 [j24] (c' := q_kc (t, r, m, z, N, ext, rx, L) I E 90 [some (.ref 512), none, none, none, none, none, none] [.int (r23 j24)] [(509, r23)] []) ok_X14_carryOut rfl (q_cc hj24 q_cn) ?_
  cases hf
  exact q_kri ok_X14_carryOut rfl rfl rfl (Nat.le_of_ble_eq_true rfl) (Nat.le_of_ble_eq_true rfl) ⟨rfl, q_hpe (q_fin [509] rfl) (q_fin [] rfl)⟩
set_option maxHeartbeats 4000000 in
theorem ct_X14_untie_512 {g : q_G} {t : Nat} {r : Nat} {m : Nat} {z : Nat} {N : Nat} {ext : Nat → q_Sh} {rx : Nat → Nat → Option Nat} {L : Nat → Nat → Int64} {d : Nat} (hd : 3 ≤ d)  {I : Nat → Nat → Int32} {E : Nat → Nat → Option Nat} {x1 : Int32} {x2 : Int32} {r0 : Bool × (Nat → Int32)} (hf : f_X14_untie (I 513) (I 517) (I 519) x1 x2 = some r0) : q_Ct g m_X14_untie d 0 0 [] [.ref 512, .int x1, .int x2] (q_hp (t, r, m, z, N, ext, rx, L) I E) (fun o h' => o = .inl (some (.int (q_bz r0.1))) ∧ h' = q_hp (t, r, m, z, N, ext, rx, L) (q_ws I [(519, r0.2)]) (q_ws E [])) := by
  rw [f_X14_untie] at hf
  refine q_Ct_of ok_X14_untie (Nat.le_of_ble_eq_true rfl) ?_ _ rfl rfl
  change q_J g m_X14_untie d 0 0 _ [] _ 0 0 (q_kc (t, r, m, z, N, ext, rx, L) I E 0 [some (.ref 512), some (.int x1), some (.int x2)] [] [] [])
  refine q_blk 3 [] (c' := q_kc (t, r, m, z, N, ext, rx, L) I E 3 [some (.ref 512), some (.int x1), some (.int x2)] [.int x2, .int x1, .ref 512] [] []) ok_X14_untie rfl q_cn ?_
  obtain ⟨r1, hr1, hf⟩ := q_bd hf
  refine q_kV (M2 := m_X14_hasRope) (As := [.int x1, .int x2]) (b := 512) (v2 := some (.int (q_bz r1))) ok_X14_untie ok_X14_hasRope cv_X14_hasRope (ct_X14_hasRope_512 (d := 2) (Nat.le_refl _) hr1) rfl rfl (Or.inl rfl) rfl rfl rfl rfl (Nat.le_trans (Nat.le_of_ble_eq_true rfl) hd) (Nat.le_of_ble_eq_true rfl) (Nat.le_of_ble_eq_true rfl) (Nat.le_of_ble_eq_true rfl) (fun x hx => absurd hx List.not_mem_nil) (q_nmL0 _) (q_nmS0 _) rfl (pos' := 4) (st' := [.int (q_bz r1)]) (lI' := []) (lE' := []) rfl rfl rfl rfl ?_
  refine q_blf 0 [] (a := q_kc (t, r, m, z, N, ext, rx, L) I E 7 [some (.ref 512), some (.int x1), some (.int x2)] [] [] []) (b := q_kc (t, r, m, z, N, ext, rx, L) I E 5 [some (.ref 512), some (.int x1), some (.int x2)] [] [] []) (P := ¬ (q_bz r1) = 0) ok_X14_untie rfl q_cn (fun h2 => ?_) (fun h2 => ?_)
  · have hf := q_ip h2 hf
    obtain ⟨j3, hj3, hf⟩ := q_bd hf
    obtain ⟨j4, hj4, hf⟩ := q_bd hf
    refine q_blk 13 [j3, j4] (c' := q_kc (t, r, m, z, N, ext, rx, L) I E 20 [some (.ref 512), some (.int x1), some (.int x2)] [.int (1 : Int32)] [(519, (q_up (I 519) j4 (-1 : Int32)))] []) ok_X14_untie rfl (q_cc hj4 (q_cc hj3 q_cn)) ?_
    cases hf
    exact q_kri ok_X14_untie rfl rfl rfl (Nat.le_of_ble_eq_true rfl) (Nat.le_of_ble_eq_true rfl) ⟨rfl, q_hpe (q_fin [519] rfl) (q_fin [] rfl)⟩
  · have hf := q_in h2 hf
    refine q_blk 1 [] (c' := q_kc (t, r, m, z, N, ext, rx, L) I E 6 [some (.ref 512), some (.int x1), some (.int x2)] [.int (0 : Int32)] [] []) ok_X14_untie rfl q_cn ?_
    cases hf
    exact q_kri ok_X14_untie rfl rfl rfl (Nat.le_of_ble_eq_true rfl) (Nat.le_of_ble_eq_true rfl) ⟨rfl, q_hpe (q_fin [519] rfl) (q_fin [] rfl)⟩
set_option maxHeartbeats 4000000 in
theorem ct_X14_isDone_512 {g : q_G} {t : Nat} {r : Nat} {m : Nat} {ext : Nat → q_Sh} {rx : Nat → Nat → Option Nat} {L : Nat → Nat → Int64} {d : Nat} (hd : 8 ≤ d)  {I : Nat → Nat → Int32} {E : Nat → Nat → Option Nat} {x1 : Int32} {r0 : Bool × (Nat → Int32) × (Nat → Int32) × (Nat → Int32) × (Nat → Int32) × (Nat → Int32) × (Nat → Int32) × (Nat → Int32) × (Nat → Int32) × (Nat → Int32) × (Nat → Int32) × (Nat → Int32) × (Nat → Int32)} (hf : f_X14_isDone (I 492) (I 499) (I 500) (I 501) (I 502) (I 503) (I 504) (I 505) (I 507) (I 509) (I 510) (I 511) (I 512) (I 513) (I 514) (I 515) (I 516) (I 517) (I 518) (I 519) x1 = some r0) : q_Ct g m_X14_isDone d 1 136 [] [.ref 512, .int x1] (q_hp (t, r, m, 499, 529, ext, rx, L) I E) (fun o h' => o = .inl (some (.int (q_bz r0.1))) ∧ h' = q_hp (t, r, m, 499, 529, ext, rx, L) (q_ws I [(492, r0.2.1), (509, r0.2.2.1), (510, r0.2.2.2.1), (511, r0.2.2.2.2.1), (512, r0.2.2.2.2.2.1), (513, r0.2.2.2.2.2.2.1), (514, r0.2.2.2.2.2.2.2.1), (515, r0.2.2.2.2.2.2.2.2.1), (516, r0.2.2.2.2.2.2.2.2.2.1), (517, r0.2.2.2.2.2.2.2.2.2.2.1), (518, r0.2.2.2.2.2.2.2.2.2.2.2.1), (519, r0.2.2.2.2.2.2.2.2.2.2.2.2)]) (q_ws E [])) := by
  rw [f_X14_isDone] at hf
  refine q_Ct_of ok_X14_isDone (Nat.le_of_ble_eq_true rfl) ?_ _ rfl rfl
  change q_J g m_X14_isDone d 1 136 _ [] _ 0 0 (q_kc (t, r, m, 499, 529, ext, rx, L) I E 0 [some (.ref 512), some (.int x1)] [] [] [])
  obtain ⟨j1, hj1, hf⟩ := q_bd hf
  refine q_blk 6 [j1] (c' := q_kc (t, r, m, 499, 529, ext, rx, L) I E 6 [some (.ref 512), some (.int x1)] [.int ((I 500) j1)] [] []) ok_X14_isDone rfl (q_cc hj1 q_cn) ?_
  refine q_ksw [7, 97, 97, 40, 97, 97, 61, 76] ok_X14_isDone rfl (dp := 97) rfl (fun ix t9 ht9 hx9 => ?_) (fun hx9 => ?_) (by decide) (by decide)
  · match ix, ht9 with
    | 0, ht9 =>
      have hx9 : ((I 500) j1) = 4 := hx9
      cases ht9
      have hf := q_ip hx9 hf
      obtain ⟨j2, hj2, hf⟩ := q_bd hf
      obtain ⟨j3, hj3, hf⟩ := q_bd hf
      obtain ⟨j4, hj4, hf⟩ := q_bd hf
      refine q_blk 22 [j2, j3, j4] (c' := q_kc (t, r, m, 499, 529, ext, rx, L) I E 29 [some (.ref 512), some (.int x1)] [.int ((I 505) j4), .int ((I 504) j3), .ref 512, .int (9 : Int32), .int (1 : Int32), .int ((I 501) j2), .ref 512] [] []) ok_X14_isDone rfl (q_cc hj4 (q_cc hj3 (q_cc hj2 q_cn))) ?_
      obtain ⟨r5, hr5, hf⟩ := q_bd hf
      refine q_kV (M2 := m_X14_carryOut) (As := [.int ((I 504) j3), .int ((I 505) j4)]) (b := 512) (v2 := some (.int r5.1)) ok_X14_isDone ok_X14_carryOut cv_X14_carryOut (ct_X14_carryOut_512 (d := 4) (Nat.le_refl _) hr5) rfl rfl (Or.inl rfl) rfl rfl rfl rfl (Nat.le_trans (Nat.le_of_ble_eq_true rfl) hd) (Nat.le_of_ble_eq_true rfl) (Nat.le_of_ble_eq_true rfl) (Nat.le_of_ble_eq_true rfl) (fun x hx => absurd hx List.not_mem_nil) (q_nmL0 _) (q_nmS0 _) rfl (pos' := 30) (st' := [.int r5.1, .int (9 : Int32), .int (1 : Int32), .int ((I 501) j2), .ref 512]) (lI' := [(509, r5.2)]) (lE' := []) rfl rfl rfl rfl ?_
      refine q_kmn (pos' := 31) ok_X14_isDone rfl rfl (Nat.le_trans (Nat.le_of_ble_eq_true rfl) hd) (Nat.le_of_ble_eq_true rfl) (Nat.le_of_ble_eq_true rfl) (Nat.le_of_ble_eq_true rfl) rfl ?_
      refine q_kmx (pos' := 32) ok_X14_isDone rfl rfl (Nat.le_trans (Nat.le_of_ble_eq_true rfl) hd) (Nat.le_of_ble_eq_true rfl) (Nat.le_of_ble_eq_true rfl) (Nat.le_of_ble_eq_true rfl) rfl ?_
      obtain ⟨j6, hj6, hf⟩ := q_bd hf
      refine q_blk 6 [j6] (c' := q_kc (t, r, m, 499, 529, ext, rx, L) I E 38 [some (.ref 512), some (.int x1)] [.int ((I 503) j6), .int (q_max (1 : Int32) (q_min (9 : Int32) r5.1)), .int ((I 501) j2), .ref 512] [(509, r5.2)] []) ok_X14_isDone rfl (q_cc hj6 q_cn) ?_
      obtain ⟨r7, hr7, hf⟩ := q_bd hf
      refine q_kV (M2 := m_X14_make) (As := [.int ((I 501) j2), .int (q_max (1 : Int32) (q_min (9 : Int32) r5.1)), .int ((I 503) j6)]) (b := 512) (v2 := some (.int (q_bz r7.1))) ok_X14_isDone ok_X14_make cv_X14_make (ct_X14_make_512 (d := 7) (Nat.le_refl _) hr7) rfl rfl (Or.inl rfl) rfl rfl rfl rfl (Nat.le_trans (Nat.le_of_ble_eq_true rfl) hd) (Nat.le_of_ble_eq_true rfl) (Nat.le_of_ble_eq_true rfl) (Nat.le_of_ble_eq_true rfl) (fun x hx => absurd hx List.not_mem_nil) (q_nmL0 _) (q_nmS0 _) rfl (pos' := 39) (st' := [.int (q_bz r7.1)]) (lI' := [(492, r7.2.1), (509, r5.2), (510, r7.2.2.1), (511, r7.2.2.2.1), (512, r7.2.2.2.2.1), (513, r7.2.2.2.2.2.1), (514, r7.2.2.2.2.2.2.1), (515, r7.2.2.2.2.2.2.2.1), (516, r7.2.2.2.2.2.2.2.2.1), (517, r7.2.2.2.2.2.2.2.2.2.1), (518, r7.2.2.2.2.2.2.2.2.2.2.1), (519, r7.2.2.2.2.2.2.2.2.2.2.2)]) (lE' := []) rfl rfl rfl rfl ?_
      cases hf
      exact q_kri ok_X14_isDone rfl rfl (q_bz_nr _) (Nat.le_of_ble_eq_true rfl) (Nat.le_of_ble_eq_true rfl) ⟨rfl, q_hpe (q_fin [492, 509, 510, 511, 512, 513, 514, 515, 516, 517, 518, 519] rfl) (q_fin [] rfl)⟩
    | 1, ht9 =>
      have hx9 : ((I 500) j1) = 5 := hx9
      cases ht9
      have hf := q_in (fun hz9 => absurd (hx9.symm.trans hz9) (by decide)) hf
      have hf := q_ip hx9 hf
      obtain ⟨j8, hj8, hf⟩ := q_bd hf
      refine q_blk 7 [j8] (c' := q_kc (t, r, m, 499, 529, ext, rx, L) I E 104 [some (.ref 512), some (.int x1)] [.int ((I 501) j8), .ref 512] [] []) ok_X14_isDone rfl (q_cc hj8 q_cn) ?_
      obtain ⟨r9, hr9, hf⟩ := q_bd hf
      refine q_kV (M2 := m_X14_drop) (As := [.int ((I 501) j8)]) (b := 512) (v2 := some (.int (q_bz r9.1))) ok_X14_isDone ok_X14_drop cv_X14_drop (ct_X14_drop_512 (d := 1) (Nat.le_refl _) hr9) rfl rfl (Or.inl rfl) rfl rfl rfl rfl (Nat.le_trans (Nat.le_of_ble_eq_true rfl) hd) (Nat.le_of_ble_eq_true rfl) (Nat.le_of_ble_eq_true rfl) (Nat.le_of_ble_eq_true rfl) (fun x hx => absurd hx List.not_mem_nil) (q_nmL0 _) (q_nmS0 _) rfl (pos' := 105) (st' := [.int (q_bz r9.1)]) (lI' := [(513, r9.2)]) (lE' := []) rfl rfl rfl rfl ?_
      cases hf
      exact q_kri ok_X14_isDone rfl rfl (q_bz_nr _) (Nat.le_of_ble_eq_true rfl) (Nat.le_of_ble_eq_true rfl) ⟨rfl, q_hpe (q_fin [492, 509, 510, 511, 512, 513, 514, 515, 516, 517, 518, 519] rfl) (q_fin [] rfl)⟩
    | 2, ht9 =>
      have hx9 : ((I 500) j1) = 6 := hx9
      cases ht9
      have hf := q_in (fun hz9 => absurd (hx9.symm.trans hz9) (by decide)) hf
      have hf := q_in (fun hz9 => absurd (hx9.symm.trans hz9) (by decide)) hf
      have hf := q_ip hx9 hf
      obtain ⟨j10, hj10, hf⟩ := q_bd hf
      refine q_blk 7 [j10] (c' := q_kc (t, r, m, 499, 529, ext, rx, L) I E 104 [some (.ref 512), some (.int x1)] [.int ((I 501) j10), .ref 512] [] []) ok_X14_isDone rfl (q_cc hj10 q_cn) ?_
      obtain ⟨r11, hr11, hf⟩ := q_bd hf
      refine q_kV (M2 := m_X14_drop) (As := [.int ((I 501) j10)]) (b := 512) (v2 := some (.int (q_bz r11.1))) ok_X14_isDone ok_X14_drop cv_X14_drop (ct_X14_drop_512 (d := 1) (Nat.le_refl _) hr11) rfl rfl (Or.inl rfl) rfl rfl rfl rfl (Nat.le_trans (Nat.le_of_ble_eq_true rfl) hd) (Nat.le_of_ble_eq_true rfl) (Nat.le_of_ble_eq_true rfl) (Nat.le_of_ble_eq_true rfl) (fun x hx => absurd hx List.not_mem_nil) (q_nmL0 _) (q_nmS0 _) rfl (pos' := 105) (st' := [.int (q_bz r11.1)]) (lI' := [(513, r11.2)]) (lE' := []) rfl rfl rfl rfl ?_
      cases hf
      exact q_kri ok_X14_isDone rfl rfl (q_bz_nr _) (Nat.le_of_ble_eq_true rfl) (Nat.le_of_ble_eq_true rfl) ⟨rfl, q_hpe (q_fin [492, 509, 510, 511, 512, 513, 514, 515, 516, 517, 518, 519] rfl) (q_fin [] rfl)⟩
    | 3, ht9 =>
      have hx9 : ((I 500) j1) = 7 := hx9
      cases ht9
      have hf := q_in (fun hz9 => absurd (hx9.symm.trans hz9) (by decide)) hf
      have hf := q_in (fun hz9 => absurd (hx9.symm.trans hz9) (by decide)) hf
      have hf := q_in (fun hz9 => absurd (hx9.symm.trans hz9) (by decide)) hf
      have hf := q_ip hx9 hf
      obtain ⟨j12, hj12, hf⟩ := q_bd hf
      obtain ⟨j13, hj13, hf⟩ := q_bd hf
      obtain ⟨j14, hj14, hf⟩ := q_bd hf
      refine q_blk 19 [j12, j13, j14] (c' := q_kc (t, r, m, 499, 529, ext, rx, L) I E 59 [some (.ref 512), some (.int x1)] [.int ((I 502) j14), .int ((I 503) j13), .int ((I 501) j12), .ref 512] [] []) ok_X14_isDone rfl (q_cc hj14 (q_cc hj13 (q_cc hj12 q_cn))) ?_
      obtain ⟨r15, hr15, hf⟩ := q_bd hf
      refine q_kV (M2 := m_X14_tie) (As := [.int ((I 501) j12), .int ((I 503) j13), .int ((I 502) j14)]) (b := 512) (v2 := some (.int (q_bz r15.1))) ok_X14_isDone ok_X14_tie cv_X14_tie (ct_X14_tie_512 (d := 3) (Nat.le_refl _) hr15) rfl rfl (Or.inl rfl) rfl rfl rfl rfl (Nat.le_trans (Nat.le_of_ble_eq_true rfl) hd) (Nat.le_of_ble_eq_true rfl) (Nat.le_of_ble_eq_true rfl) (Nat.le_of_ble_eq_true rfl) (fun x hx => absurd hx List.not_mem_nil) (q_nmL0 _) (q_nmS0 _) rfl (pos' := 60) (st' := [.int (q_bz r15.1)]) (lI' := [(519, r15.2)]) (lE' := []) rfl rfl rfl rfl ?_
      cases hf
      exact q_kri ok_X14_isDone rfl rfl (q_bz_nr _) (Nat.le_of_ble_eq_true rfl) (Nat.le_of_ble_eq_true rfl) ⟨rfl, q_hpe (q_fin [492, 509, 510, 511, 512, 513, 514, 515, 516, 517, 518, 519] rfl) (q_fin [] rfl)⟩
    | 4, ht9 =>
      have hx9 : ((I 500) j1) = 8 := hx9
      cases ht9
      have hf := q_in (fun hz9 => absurd (hx9.symm.trans hz9) (by decide)) hf
      have hf := q_in (fun hz9 => absurd (hx9.symm.trans hz9) (by decide)) hf
      have hf := q_in (fun hz9 => absurd (hx9.symm.trans hz9) (by decide)) hf
      have hf := q_in (fun hz9 => absurd (hx9.symm.trans hz9) (by decide)) hf
      have hf := q_ip hx9 hf
      obtain ⟨j16, hj16, hf⟩ := q_bd hf
      refine q_blk 7 [j16] (c' := q_kc (t, r, m, 499, 529, ext, rx, L) I E 104 [some (.ref 512), some (.int x1)] [.int ((I 501) j16), .ref 512] [] []) ok_X14_isDone rfl (q_cc hj16 q_cn) ?_
      obtain ⟨r17, hr17, hf⟩ := q_bd hf
      refine q_kV (M2 := m_X14_drop) (As := [.int ((I 501) j16)]) (b := 512) (v2 := some (.int (q_bz r17.1))) ok_X14_isDone ok_X14_drop cv_X14_drop (ct_X14_drop_512 (d := 1) (Nat.le_refl _) hr17) rfl rfl (Or.inl rfl) rfl rfl rfl rfl (Nat.le_trans (Nat.le_of_ble_eq_true rfl) hd) (Nat.le_of_ble_eq_true rfl) (Nat.le_of_ble_eq_true rfl) (Nat.le_of_ble_eq_true rfl) (fun x hx => absurd hx List.not_mem_nil) (q_nmL0 _) (q_nmS0 _) rfl (pos' := 105) (st' := [.int (q_bz r17.1)]) (lI' := [(513, r17.2)]) (lE' := []) rfl rfl rfl rfl ?_
      cases hf
      exact q_kri ok_X14_isDone rfl rfl (q_bz_nr _) (Nat.le_of_ble_eq_true rfl) (Nat.le_of_ble_eq_true rfl) ⟨rfl, q_hpe (q_fin [492, 509, 510, 511, 512, 513, 514, 515, 516, 517, 518, 519] rfl) (q_fin [] rfl)⟩
    | 5, ht9 =>
      have hx9 : ((I 500) j1) = 9 := hx9
      cases ht9
      have hf := q_in (fun hz9 => absurd (hx9.symm.trans hz9) (by decide)) hf
      have hf := q_in (fun hz9 => absurd (hx9.symm.trans hz9) (by decide)) hf
      have hf := q_in (fun hz9 => absurd (hx9.symm.trans hz9) (by decide)) hf
      have hf := q_in (fun hz9 => absurd (hx9.symm.trans hz9) (by decide)) hf
      have hf := q_in (fun hz9 => absurd (hx9.symm.trans hz9) (by decide)) hf
      have hf := q_ip hx9 hf
      obtain ⟨j18, hj18, hf⟩ := q_bd hf
      refine q_blk 7 [j18] (c' := q_kc (t, r, m, 499, 529, ext, rx, L) I E 104 [some (.ref 512), some (.int x1)] [.int ((I 501) j18), .ref 512] [] []) ok_X14_isDone rfl (q_cc hj18 q_cn) ?_
      obtain ⟨r19, hr19, hf⟩ := q_bd hf
      refine q_kV (M2 := m_X14_drop) (As := [.int ((I 501) j18)]) (b := 512) (v2 := some (.int (q_bz r19.1))) ok_X14_isDone ok_X14_drop cv_X14_drop (ct_X14_drop_512 (d := 1) (Nat.le_refl _) hr19) rfl rfl (Or.inl rfl) rfl rfl rfl rfl (Nat.le_trans (Nat.le_of_ble_eq_true rfl) hd) (Nat.le_of_ble_eq_true rfl) (Nat.le_of_ble_eq_true rfl) (Nat.le_of_ble_eq_true rfl) (fun x hx => absurd hx List.not_mem_nil) (q_nmL0 _) (q_nmS0 _) rfl (pos' := 105) (st' := [.int (q_bz r19.1)]) (lI' := [(513, r19.2)]) (lE' := []) rfl rfl rfl rfl ?_
      cases hf
      exact q_kri ok_X14_isDone rfl rfl (q_bz_nr _) (Nat.le_of_ble_eq_true rfl) (Nat.le_of_ble_eq_true rfl) ⟨rfl, q_hpe (q_fin [492, 509, 510, 511, 512, 513, 514, 515, 516, 517, 518, 519] rfl) (q_fin [] rfl)⟩
    | 6, ht9 =>
      have hx9 : ((I 500) j1) = 10 := hx9
      cases ht9
      have hf := q_in (fun hz9 => absurd (hx9.symm.trans hz9) (by decide)) hf
      have hf := q_in (fun hz9 => absurd (hx9.symm.trans hz9) (by decide)) hf
      have hf := q_in (fun hz9 => absurd (hx9.symm.trans hz9) (by decide)) hf
      have hf := q_in (fun hz9 => absurd (hx9.symm.trans hz9) (by decide)) hf
      have hf := q_in (fun hz9 => absurd (hx9.symm.trans hz9) (by decide)) hf
      have hf := q_in (fun hz9 => absurd (hx9.symm.trans hz9) (by decide)) hf
      have hf := q_ip hx9 hf
      obtain ⟨j20, hj20, hf⟩ := q_bd hf
      obtain ⟨j21, hj21, hf⟩ := q_bd hf
      refine q_blk 13 [j20, j21] (c' := q_kc (t, r, m, 499, 529, ext, rx, L) I E 74 [some (.ref 512), some (.int x1)] [.int ((I 503) j21), .int ((I 501) j20), .ref 512] [] []) ok_X14_isDone rfl (q_cc hj21 (q_cc hj20 q_cn)) ?_
      obtain ⟨r22, hr22, hf⟩ := q_bd hf
      refine q_kV (M2 := m_X14_untie) (As := [.int ((I 501) j20), .int ((I 503) j21)]) (b := 512) (v2 := some (.int (q_bz r22.1))) ok_X14_isDone ok_X14_untie cv_X14_untie (ct_X14_untie_512 (d := 3) (Nat.le_refl _) hr22) rfl rfl (Or.inl rfl) rfl rfl rfl rfl (Nat.le_trans (Nat.le_of_ble_eq_true rfl) hd) (Nat.le_of_ble_eq_true rfl) (Nat.le_of_ble_eq_true rfl) (Nat.le_of_ble_eq_true rfl) (fun x hx => absurd hx List.not_mem_nil) (q_nmL0 _) (q_nmS0 _) rfl (pos' := 75) (st' := [.int (q_bz r22.1)]) (lI' := [(519, r22.2)]) (lE' := []) rfl rfl rfl rfl ?_
      cases hf
      exact q_kri ok_X14_isDone rfl rfl (q_bz_nr _) (Nat.le_of_ble_eq_true rfl) (Nat.le_of_ble_eq_true rfl) ⟨rfl, q_hpe (q_fin [492, 509, 510, 511, 512, 513, 514, 515, 516, 517, 518, 519] rfl) (q_fin [] rfl)⟩
    | 7, ht9 =>
      have hx9 : ((I 500) j1) = 11 := hx9
      cases ht9
      have hf := q_in (fun hz9 => absurd (hx9.symm.trans hz9) (by decide)) hf
      have hf := q_in (fun hz9 => absurd (hx9.symm.trans hz9) (by decide)) hf
      have hf := q_in (fun hz9 => absurd (hx9.symm.trans hz9) (by decide)) hf
      have hf := q_in (fun hz9 => absurd (hx9.symm.trans hz9) (by decide)) hf
      have hf := q_in (fun hz9 => absurd (hx9.symm.trans hz9) (by decide)) hf
      have hf := q_in (fun hz9 => absurd (hx9.symm.trans hz9) (by decide)) hf
      have hf := q_in (fun hz9 => absurd (hx9.symm.trans hz9) (by decide)) hf
      have hf := q_ip hx9 hf
      obtain ⟨j23, hj23, hf⟩ := q_bd hf
      obtain ⟨j24, hj24, hf⟩ := q_bd hf
      obtain ⟨j25, hj25, hf⟩ := q_bd hf
      refine q_blk 19 [j23, j24, j25] (c' := q_kc (t, r, m, 499, 529, ext, rx, L) I E 95 [some (.ref 512), some (.int x1)] [.int ((I 503) j25), .int ((I 502) j24), .int ((I 501) j23), .ref 512] [] []) ok_X14_isDone rfl (q_cc hj25 (q_cc hj24 (q_cc hj23 q_cn))) ?_
      obtain ⟨r26, hr26, hf⟩ := q_bd hf
      refine q_kV (M2 := m_X14_follow) (As := [.int ((I 501) j23), .int ((I 502) j24), .int ((I 503) j25)]) (b := 512) (v2 := some (.int (q_bz r26.1))) ok_X14_isDone ok_X14_follow cv_X14_follow (ct_X14_follow_512 (d := 3) (Nat.le_refl _) hr26) rfl rfl (Or.inl rfl) rfl rfl rfl rfl (Nat.le_trans (Nat.le_of_ble_eq_true rfl) hd) (Nat.le_of_ble_eq_true rfl) (Nat.le_of_ble_eq_true rfl) (Nat.le_of_ble_eq_true rfl) (fun x hx => absurd hx List.not_mem_nil) (q_nmL0 _) (q_nmS0 _) rfl (pos' := 96) (st' := [.int (q_bz r26.1)]) (lI' := [(513, r26.2)]) (lE' := []) rfl rfl rfl rfl ?_
      cases hf
      exact q_kri ok_X14_isDone rfl rfl (q_bz_nr _) (Nat.le_of_ble_eq_true rfl) (Nat.le_of_ble_eq_true rfl) ⟨rfl, q_hpe (q_fin [492, 509, 510, 511, 512, 513, 514, 515, 516, 517, 518, 519] rfl) (q_fin [] rfl)⟩
    | z9 + 8, ht9 => cases ht9
  · have hf := q_in (hx9 0 (by decide)) hf
    have hf := q_in (hx9 1 (by decide)) hf
    have hf := q_in (hx9 2 (by decide)) hf
    have hf := q_in (hx9 3 (by decide)) hf
    have hf := q_in (hx9 4 (by decide)) hf
    have hf := q_in (hx9 5 (by decide)) hf
    have hf := q_in (hx9 6 (by decide)) hf
    have hf := q_in (hx9 7 (by decide)) hf
    obtain ⟨j27, hj27, hf⟩ := q_bd hf
    refine q_blk 7 [j27] (c' := q_kc (t, r, m, 499, 529, ext, rx, L) I E 104 [some (.ref 512), some (.int x1)] [.int ((I 501) j27), .ref 512] [] []) ok_X14_isDone rfl (q_cc hj27 q_cn) ?_
    obtain ⟨r28, hr28, hf⟩ := q_bd hf
    refine q_kV (M2 := m_X14_drop) (As := [.int ((I 501) j27)]) (b := 512) (v2 := some (.int (q_bz r28.1))) ok_X14_isDone ok_X14_drop cv_X14_drop (ct_X14_drop_512 (d := 1) (Nat.le_refl _) hr28) rfl rfl (Or.inl rfl) rfl rfl rfl rfl (Nat.le_trans (Nat.le_of_ble_eq_true rfl) hd) (Nat.le_of_ble_eq_true rfl) (Nat.le_of_ble_eq_true rfl) (Nat.le_of_ble_eq_true rfl) (fun x hx => absurd hx List.not_mem_nil) (q_nmL0 _) (q_nmS0 _) rfl (pos' := 105) (st' := [.int (q_bz r28.1)]) (lI' := [(513, r28.2)]) (lE' := []) rfl rfl rfl rfl ?_
    cases hf
    exact q_kri ok_X14_isDone rfl rfl (q_bz_nr _) (Nat.le_of_ble_eq_true rfl) (Nat.le_of_ble_eq_true rfl) ⟨rfl, q_hpe (q_fin [492, 509, 510, 511, 512, 513, 514, 515, 516, 517, 518, 519] rfl) (q_fin [] rfl)⟩
set_option maxHeartbeats 4000000 in
theorem ct_X14_goOn_512 {g : q_G} {t : Nat} {r : Nat} {m : Nat} {ext : Nat → q_Sh} {rx : Nat → Nat → Option Nat} {L : Nat → Nat → Int64} {d : Nat} (hd : 9 ≤ d)  {I : Nat → Nat → Int32} {E : Nat → Nat → Option Nat} {r0 : Bool × (Nat → Int32) × (Nat → Int32) × (Nat → Int32) × (Nat → Int32) × (Nat → Int32) × (Nat → Int32) × (Nat → Int32) × (Nat → Int32) × (Nat → Int32) × (Nat → Int32) × (Nat → Int32) × (Nat → Int32)} (hf : f_X14_goOn (I 492) (I 499) (I 500) (I 501) (I 502) (I 503) (I 504) (I 505) (I 506) (I 507) (I 509) (I 510) (I 511) (I 512) (I 513) (I 514) (I 515) (I 516) (I 517) (I 518) (I 519) = some r0) : q_Ct g m_X14_goOn d 1 136 [] [.ref 512] (q_hp (t, r, m, 499, 529, ext, rx, L) I E) (fun o h' => o = .inl (some (.int (q_bz r0.1))) ∧ h' = q_hp (t, r, m, 499, 529, ext, rx, L) (q_ws I [(492, r0.2.1), (509, r0.2.2.1), (510, r0.2.2.2.1), (511, r0.2.2.2.2.1), (512, r0.2.2.2.2.2.1), (513, r0.2.2.2.2.2.2.1), (514, r0.2.2.2.2.2.2.2.1), (515, r0.2.2.2.2.2.2.2.2.1), (516, r0.2.2.2.2.2.2.2.2.2.1), (517, r0.2.2.2.2.2.2.2.2.2.2.1), (518, r0.2.2.2.2.2.2.2.2.2.2.2.1), (519, r0.2.2.2.2.2.2.2.2.2.2.2.2)]) (q_ws E [])) := by
  rw [f_X14_goOn] at hf
  refine q_Ct_of ok_X14_goOn (Nat.le_of_ble_eq_true rfl) ?_ _ rfl rfl
  change q_J g m_X14_goOn d 1 136 _ [] _ 0 0 (q_kc (t, r, m, 499, 529, ext, rx, L) I E 0 [some (.ref 512), none, none, none] [] [] [])
  obtain ⟨u1, hu2, hf⟩ := q_bd hf
  refine q_blk 6 [] (c' := q_kc (t, r, m, 499, 529, ext, rx, L) I E 6 [some (.ref 512), none, none, none] [.int ((I 499) 4), .int ((I 512) 0)] [] []) ok_X14_goOn rfl q_cn ?_
  refine q_krm (pos' := 7) ok_X14_goOn rfl (q_nz_ne hu2) rfl ?_
  obtain ⟨j3, hj3, hf⟩ := q_bd hf
  obtain ⟨j4, hj4, hf⟩ := q_bd hf
  refine q_blf 13 [j3, j4] (a := q_kc (t, r, m, 499, 529, ext, rx, L) I E 37 [some (.ref 512), some (.int (((I 512) 0) - ((I 512) 0) / ((I 499) 4) * ((I 499) 4))), none, none] [] [] []) (b := q_kc (t, r, m, 499, 529, ext, rx, L) I E 21 [some (.ref 512), some (.int (((I 512) 0) - ((I 512) 0) / ((I 499) 4) * ((I 499) 4))), none, none] [] [] []) (P := ((I 505) j3) = ((I 506) j4)) ok_X14_goOn rfl (q_cc hj4 (q_cc hj3 q_cn)) (fun h5 => ?_) (fun h5 => ?_)
  · have hf := q_ip h5 hf
    refine q_blf 4 [] (a := q_kc (t, r, m, 499, 529, ext, rx, L) I E 49 [some (.ref 512), some (.int (((I 512) 0) - ((I 512) 0) / ((I 499) 4) * ((I 499) 4))), some (.int (1 : Int32)), none] [] [] []) (b := q_kc (t, r, m, 499, 529, ext, rx, L) I E 43 [some (.ref 512), some (.int (((I 512) 0) - ((I 512) 0) / ((I 499) 4) * ((I 499) 4))), some (.int (1 : Int32)), none] [] [] []) (P := (1 : Int32) = 0) ok_X14_goOn rfl q_cn (fun h6 => ?_) (fun h6 => ?_)
    · have hf := q_ip h6 hf
      refine q_blf 12 [] (a := q_kc (t, r, m, 499, 529, ext, rx, L) I E 66 [some (.ref 512), some (.int (((I 512) 0) - ((I 512) 0) / ((I 499) 4) * ((I 499) 4))), some (.int (1 : Int32)), some (.int (0 : Int32))] [.int ((q_up (I 512) 0 (((I 512) 0) + (1 : Int32))) 1), .ref 512] [(512, (q_up (I 512) 0 (((I 512) 0) + (1 : Int32))))] []) (b := q_kc (t, r, m, 499, 529, ext, rx, L) I E 62 [some (.ref 512), some (.int (((I 512) 0) - ((I 512) 0) / ((I 499) 4) * ((I 499) 4))), some (.int (1 : Int32)), some (.int (0 : Int32))] [.int ((q_up (I 512) 0 (((I 512) 0) + (1 : Int32))) 1), .ref 512] [(512, (q_up (I 512) 0 (((I 512) 0) + (1 : Int32))))] []) (P := (1 : Int32) = 0) ok_X14_goOn rfl q_cn (fun h7 => ?_) (fun h7 => ?_)
      · have hf := q_ip h7 hf
        refine q_blk 4 [] (c' := q_kc (t, r, m, 499, 529, ext, rx, L) I E 70 [some (.ref 512), some (.int (((I 512) 0) - ((I 512) 0) / ((I 499) 4) * ((I 499) 4))), some (.int (1 : Int32)), some (.int (0 : Int32))] [.int (0 : Int32)] [(512, (q_up (q_up (I 512) 0 (((I 512) 0) + (1 : Int32))) 1 (((q_up (I 512) 0 (((I 512) 0) + (1 : Int32))) 1) + (0 : Int32))))] []) ok_X14_goOn rfl q_cn ?_
        cases hf
        exact q_kri ok_X14_goOn rfl rfl rfl (Nat.le_of_ble_eq_true rfl) (Nat.le_of_ble_eq_true rfl) ⟨rfl, q_hpe (q_fin [492, 509, 510, 511, 512, 513, 514, 515, 516, 517, 518, 519] rfl) (q_fin [] rfl)⟩
      · have hf := q_in h7 hf
        refine q_blf 1 [] (a := q_kc (t, r, m, 499, 529, ext, rx, L) I E 66 [some (.ref 512), some (.int (((I 512) 0) - ((I 512) 0) / ((I 499) 4) * ((I 499) 4))), some (.int (1 : Int32)), some (.int (0 : Int32))] [.int ((q_up (I 512) 0 (((I 512) 0) + (1 : Int32))) 1), .ref 512] [(512, (q_up (I 512) 0 (((I 512) 0) + (1 : Int32))))] []) (b := q_kc (t, r, m, 499, 529, ext, rx, L) I E 64 [some (.ref 512), some (.int (((I 512) 0) - ((I 512) 0) / ((I 499) 4) * ((I 499) 4))), some (.int (1 : Int32)), some (.int (0 : Int32))] [.int ((q_up (I 512) 0 (((I 512) 0) + (1 : Int32))) 1), .ref 512] [(512, (q_up (I 512) 0 (((I 512) 0) + (1 : Int32))))] []) (P := ¬ (0 : Int32) = 0) ok_X14_goOn rfl q_cn (fun h8 => ?_) (fun h8 => ?_)
        · have hf := q_ip h8 hf
          refine q_blk 4 [] (c' := q_kc (t, r, m, 499, 529, ext, rx, L) I E 70 [some (.ref 512), some (.int (((I 512) 0) - ((I 512) 0) / ((I 499) 4) * ((I 499) 4))), some (.int (1 : Int32)), some (.int (0 : Int32))] [.int (0 : Int32)] [(512, (q_up (q_up (I 512) 0 (((I 512) 0) + (1 : Int32))) 1 (((q_up (I 512) 0 (((I 512) 0) + (1 : Int32))) 1) + (0 : Int32))))] []) ok_X14_goOn rfl q_cn ?_
          cases hf
          exact q_kri ok_X14_goOn rfl rfl rfl (Nat.le_of_ble_eq_true rfl) (Nat.le_of_ble_eq_true rfl) ⟨rfl, q_hpe (q_fin [492, 509, 510, 511, 512, 513, 514, 515, 516, 517, 518, 519] rfl) (q_fin [] rfl)⟩
        · have hf := q_in h8 hf
          refine q_blk 5 [] (c' := q_kc (t, r, m, 499, 529, ext, rx, L) I E 70 [some (.ref 512), some (.int (((I 512) 0) - ((I 512) 0) / ((I 499) 4) * ((I 499) 4))), some (.int (1 : Int32)), some (.int (0 : Int32))] [.int (0 : Int32)] [(512, (q_up (q_up (I 512) 0 (((I 512) 0) + (1 : Int32))) 1 (((q_up (I 512) 0 (((I 512) 0) + (1 : Int32))) 1) + (1 : Int32))))] []) ok_X14_goOn rfl q_cn ?_
          cases hf
          exact q_kri ok_X14_goOn rfl rfl rfl (Nat.le_of_ble_eq_true rfl) (Nat.le_of_ble_eq_true rfl) ⟨rfl, q_hpe (q_fin [492, 509, 510, 511, 512, 513, 514, 515, 516, 517, 518, 519] rfl) (q_fin [] rfl)⟩
    · have hf := q_in h6 hf
      refine q_blk 2 [] (c' := q_kc (t, r, m, 499, 529, ext, rx, L) I E 45 [some (.ref 512), some (.int (((I 512) 0) - ((I 512) 0) / ((I 499) 4) * ((I 499) 4))), some (.int (1 : Int32)), none] [.int (((I 512) 0) - ((I 512) 0) / ((I 499) 4) * ((I 499) 4)), .ref 512] [] []) ok_X14_goOn rfl q_cn ?_
      obtain ⟨r9, hr9, hf⟩ := q_bd hf
      refine q_kV (M2 := m_X14_isDone) (As := [.int (((I 512) 0) - ((I 512) 0) / ((I 499) 4) * ((I 499) 4))]) (b := 512) (v2 := some (.int (q_bz r9.1))) ok_X14_goOn ok_X14_isDone cv_X14_isDone (ct_X14_isDone_512 (d := 8) (Nat.le_refl _) hr9) rfl rfl (Or.inl rfl) rfl rfl rfl rfl (Nat.le_trans (Nat.le_of_ble_eq_true rfl) hd) (Nat.le_of_ble_eq_true rfl) (Nat.le_of_ble_eq_true rfl) (Nat.le_of_ble_eq_true rfl) (fun x hx => absurd hx List.not_mem_nil) (q_nmL0 _) (q_nmS0 _) rfl (pos' := 46) (st' := [.int (q_bz r9.1)]) (lI' := [(492, r9.2.1), (509, r9.2.2.1), (510, r9.2.2.2.1), (511, r9.2.2.2.2.1), (512, r9.2.2.2.2.2.1), (513, r9.2.2.2.2.2.2.1), (514, r9.2.2.2.2.2.2.2.1), (515, r9.2.2.2.2.2.2.2.2.1), (516, r9.2.2.2.2.2.2.2.2.2.1), (517, r9.2.2.2.2.2.2.2.2.2.2.1), (518, r9.2.2.2.2.2.2.2.2.2.2.2.1), (519, r9.2.2.2.2.2.2.2.2.2.2.2.2)]) (lE' := []) rfl rfl rfl rfl ?_
      refine q_blf 0 [] (a := q_kc (t, r, m, 499, 529, ext, rx, L) I E 49 [some (.ref 512), some (.int (((I 512) 0) - ((I 512) 0) / ((I 499) 4) * ((I 499) 4))), some (.int (1 : Int32)), none] [] [(492, r9.2.1), (509, r9.2.2.1), (510, r9.2.2.2.1), (511, r9.2.2.2.2.1), (512, r9.2.2.2.2.2.1), (513, r9.2.2.2.2.2.2.1), (514, r9.2.2.2.2.2.2.2.1), (515, r9.2.2.2.2.2.2.2.2.1), (516, r9.2.2.2.2.2.2.2.2.2.1), (517, r9.2.2.2.2.2.2.2.2.2.2.1), (518, r9.2.2.2.2.2.2.2.2.2.2.2.1), (519, r9.2.2.2.2.2.2.2.2.2.2.2.2)] []) (b := q_kc (t, r, m, 499, 529, ext, rx, L) I E 47 [some (.ref 512), some (.int (((I 512) 0) - ((I 512) 0) / ((I 499) 4) * ((I 499) 4))), some (.int (1 : Int32)), none] [] [(492, r9.2.1), (509, r9.2.2.1), (510, r9.2.2.2.1), (511, r9.2.2.2.2.1), (512, r9.2.2.2.2.2.1), (513, r9.2.2.2.2.2.2.1), (514, r9.2.2.2.2.2.2.2.1), (515, r9.2.2.2.2.2.2.2.2.1), (516, r9.2.2.2.2.2.2.2.2.2.1), (517, r9.2.2.2.2.2.2.2.2.2.2.1), (518, r9.2.2.2.2.2.2.2.2.2.2.2.1), (519, r9.2.2.2.2.2.2.2.2.2.2.2.2)] []) (P := (q_bz r9.1) = 0) ok_X14_goOn rfl q_cn (fun h10 => ?_) (fun h10 => ?_)
      · have hf := q_ip h10 hf
        refine q_blf 12 [] (a := q_kc (t, r, m, 499, 529, ext, rx, L) I E 66 [some (.ref 512), some (.int (((I 512) 0) - ((I 512) 0) / ((I 499) 4) * ((I 499) 4))), some (.int (1 : Int32)), some (.int (0 : Int32))] [.int ((q_up r9.2.2.2.2.2.1 0 ((r9.2.2.2.2.2.1 0) + (1 : Int32))) 1), .ref 512] [(492, r9.2.1), (509, r9.2.2.1), (510, r9.2.2.2.1), (511, r9.2.2.2.2.1), (512, (q_up r9.2.2.2.2.2.1 0 ((r9.2.2.2.2.2.1 0) + (1 : Int32)))), (513, r9.2.2.2.2.2.2.1), (514, r9.2.2.2.2.2.2.2.1), (515, r9.2.2.2.2.2.2.2.2.1), (516, r9.2.2.2.2.2.2.2.2.2.1), (517, r9.2.2.2.2.2.2.2.2.2.2.1), (518, r9.2.2.2.2.2.2.2.2.2.2.2.1), (519, r9.2.2.2.2.2.2.2.2.2.2.2.2)] []) (b := q_kc (t, r, m, 499, 529, ext, rx, L) I E 62 [some (.ref 512), some (.int (((I 512) 0) - ((I 512) 0) / ((I 499) 4) * ((I 499) 4))), some (.int (1 : Int32)), some (.int (0 : Int32))] [.int ((q_up r9.2.2.2.2.2.1 0 ((r9.2.2.2.2.2.1 0) + (1 : Int32))) 1), .ref 512] [(492, r9.2.1), (509, r9.2.2.1), (510, r9.2.2.2.1), (511, r9.2.2.2.2.1), (512, (q_up r9.2.2.2.2.2.1 0 ((r9.2.2.2.2.2.1 0) + (1 : Int32)))), (513, r9.2.2.2.2.2.2.1), (514, r9.2.2.2.2.2.2.2.1), (515, r9.2.2.2.2.2.2.2.2.1), (516, r9.2.2.2.2.2.2.2.2.2.1), (517, r9.2.2.2.2.2.2.2.2.2.2.1), (518, r9.2.2.2.2.2.2.2.2.2.2.2.1), (519, r9.2.2.2.2.2.2.2.2.2.2.2.2)] []) (P := (1 : Int32) = 0) ok_X14_goOn rfl q_cn (fun h11 => ?_) (fun h11 => ?_)
        · have hf := q_ip h11 hf
          refine q_blk 4 [] (c' := q_kc (t, r, m, 499, 529, ext, rx, L) I E 70 [some (.ref 512), some (.int (((I 512) 0) - ((I 512) 0) / ((I 499) 4) * ((I 499) 4))), some (.int (1 : Int32)), some (.int (0 : Int32))] [.int (0 : Int32)] [(492, r9.2.1), (509, r9.2.2.1), (510, r9.2.2.2.1), (511, r9.2.2.2.2.1), (512, (q_up (q_up r9.2.2.2.2.2.1 0 ((r9.2.2.2.2.2.1 0) + (1 : Int32))) 1 (((q_up r9.2.2.2.2.2.1 0 ((r9.2.2.2.2.2.1 0) + (1 : Int32))) 1) + (0 : Int32)))), (513, r9.2.2.2.2.2.2.1), (514, r9.2.2.2.2.2.2.2.1), (515, r9.2.2.2.2.2.2.2.2.1), (516, r9.2.2.2.2.2.2.2.2.2.1), (517, r9.2.2.2.2.2.2.2.2.2.2.1), (518, r9.2.2.2.2.2.2.2.2.2.2.2.1), (519, r9.2.2.2.2.2.2.2.2.2.2.2.2)] []) ok_X14_goOn rfl q_cn ?_
          cases hf
          exact q_kri ok_X14_goOn rfl rfl rfl (Nat.le_of_ble_eq_true rfl) (Nat.le_of_ble_eq_true rfl) ⟨rfl, q_hpe (q_fin [492, 509, 510, 511, 512, 513, 514, 515, 516, 517, 518, 519] rfl) (q_fin [] rfl)⟩
        · have hf := q_in h11 hf
          refine q_blf 1 [] (a := q_kc (t, r, m, 499, 529, ext, rx, L) I E 66 [some (.ref 512), some (.int (((I 512) 0) - ((I 512) 0) / ((I 499) 4) * ((I 499) 4))), some (.int (1 : Int32)), some (.int (0 : Int32))] [.int ((q_up r9.2.2.2.2.2.1 0 ((r9.2.2.2.2.2.1 0) + (1 : Int32))) 1), .ref 512] [(492, r9.2.1), (509, r9.2.2.1), (510, r9.2.2.2.1), (511, r9.2.2.2.2.1), (512, (q_up r9.2.2.2.2.2.1 0 ((r9.2.2.2.2.2.1 0) + (1 : Int32)))), (513, r9.2.2.2.2.2.2.1), (514, r9.2.2.2.2.2.2.2.1), (515, r9.2.2.2.2.2.2.2.2.1), (516, r9.2.2.2.2.2.2.2.2.2.1), (517, r9.2.2.2.2.2.2.2.2.2.2.1), (518, r9.2.2.2.2.2.2.2.2.2.2.2.1), (519, r9.2.2.2.2.2.2.2.2.2.2.2.2)] []) (b := q_kc (t, r, m, 499, 529, ext, rx, L) I E 64 [some (.ref 512), some (.int (((I 512) 0) - ((I 512) 0) / ((I 499) 4) * ((I 499) 4))), some (.int (1 : Int32)), some (.int (0 : Int32))] [.int ((q_up r9.2.2.2.2.2.1 0 ((r9.2.2.2.2.2.1 0) + (1 : Int32))) 1), .ref 512] [(492, r9.2.1), (509, r9.2.2.1), (510, r9.2.2.2.1), (511, r9.2.2.2.2.1), (512, (q_up r9.2.2.2.2.2.1 0 ((r9.2.2.2.2.2.1 0) + (1 : Int32)))), (513, r9.2.2.2.2.2.2.1), (514, r9.2.2.2.2.2.2.2.1), (515, r9.2.2.2.2.2.2.2.2.1), (516, r9.2.2.2.2.2.2.2.2.2.1), (517, r9.2.2.2.2.2.2.2.2.2.2.1), (518, r9.2.2.2.2.2.2.2.2.2.2.2.1), (519, r9.2.2.2.2.2.2.2.2.2.2.2.2)] []) (P := ¬ (0 : Int32) = 0) ok_X14_goOn rfl q_cn (fun h12 => ?_) (fun h12 => ?_)
          · have hf := q_ip h12 hf
            refine q_blk 4 [] (c' := q_kc (t, r, m, 499, 529, ext, rx, L) I E 70 [some (.ref 512), some (.int (((I 512) 0) - ((I 512) 0) / ((I 499) 4) * ((I 499) 4))), some (.int (1 : Int32)), some (.int (0 : Int32))] [.int (0 : Int32)] [(492, r9.2.1), (509, r9.2.2.1), (510, r9.2.2.2.1), (511, r9.2.2.2.2.1), (512, (q_up (q_up r9.2.2.2.2.2.1 0 ((r9.2.2.2.2.2.1 0) + (1 : Int32))) 1 (((q_up r9.2.2.2.2.2.1 0 ((r9.2.2.2.2.2.1 0) + (1 : Int32))) 1) + (0 : Int32)))), (513, r9.2.2.2.2.2.2.1), (514, r9.2.2.2.2.2.2.2.1), (515, r9.2.2.2.2.2.2.2.2.1), (516, r9.2.2.2.2.2.2.2.2.2.1), (517, r9.2.2.2.2.2.2.2.2.2.2.1), (518, r9.2.2.2.2.2.2.2.2.2.2.2.1), (519, r9.2.2.2.2.2.2.2.2.2.2.2.2)] []) ok_X14_goOn rfl q_cn ?_
            cases hf
            exact q_kri ok_X14_goOn rfl rfl rfl (Nat.le_of_ble_eq_true rfl) (Nat.le_of_ble_eq_true rfl) ⟨rfl, q_hpe (q_fin [492, 509, 510, 511, 512, 513, 514, 515, 516, 517, 518, 519] rfl) (q_fin [] rfl)⟩
          · have hf := q_in h12 hf
            refine q_blk 5 [] (c' := q_kc (t, r, m, 499, 529, ext, rx, L) I E 70 [some (.ref 512), some (.int (((I 512) 0) - ((I 512) 0) / ((I 499) 4) * ((I 499) 4))), some (.int (1 : Int32)), some (.int (0 : Int32))] [.int (0 : Int32)] [(492, r9.2.1), (509, r9.2.2.1), (510, r9.2.2.2.1), (511, r9.2.2.2.2.1), (512, (q_up (q_up r9.2.2.2.2.2.1 0 ((r9.2.2.2.2.2.1 0) + (1 : Int32))) 1 (((q_up r9.2.2.2.2.2.1 0 ((r9.2.2.2.2.2.1 0) + (1 : Int32))) 1) + (1 : Int32)))), (513, r9.2.2.2.2.2.2.1), (514, r9.2.2.2.2.2.2.2.1), (515, r9.2.2.2.2.2.2.2.2.1), (516, r9.2.2.2.2.2.2.2.2.2.1), (517, r9.2.2.2.2.2.2.2.2.2.2.1), (518, r9.2.2.2.2.2.2.2.2.2.2.2.1), (519, r9.2.2.2.2.2.2.2.2.2.2.2.2)] []) ok_X14_goOn rfl q_cn ?_
            cases hf
            exact q_kri ok_X14_goOn rfl rfl rfl (Nat.le_of_ble_eq_true rfl) (Nat.le_of_ble_eq_true rfl) ⟨rfl, q_hpe (q_fin [492, 509, 510, 511, 512, 513, 514, 515, 516, 517, 518, 519] rfl) (q_fin [] rfl)⟩
      · have hf := q_in h10 hf
        refine q_blf 13 [] (a := q_kc (t, r, m, 499, 529, ext, rx, L) I E 66 [some (.ref 512), some (.int (((I 512) 0) - ((I 512) 0) / ((I 499) 4) * ((I 499) 4))), some (.int (1 : Int32)), some (.int (1 : Int32))] [.int ((q_up r9.2.2.2.2.2.1 0 ((r9.2.2.2.2.2.1 0) + (1 : Int32))) 1), .ref 512] [(492, r9.2.1), (509, r9.2.2.1), (510, r9.2.2.2.1), (511, r9.2.2.2.2.1), (512, (q_up r9.2.2.2.2.2.1 0 ((r9.2.2.2.2.2.1 0) + (1 : Int32)))), (513, r9.2.2.2.2.2.2.1), (514, r9.2.2.2.2.2.2.2.1), (515, r9.2.2.2.2.2.2.2.2.1), (516, r9.2.2.2.2.2.2.2.2.2.1), (517, r9.2.2.2.2.2.2.2.2.2.2.1), (518, r9.2.2.2.2.2.2.2.2.2.2.2.1), (519, r9.2.2.2.2.2.2.2.2.2.2.2.2)] []) (b := q_kc (t, r, m, 499, 529, ext, rx, L) I E 62 [some (.ref 512), some (.int (((I 512) 0) - ((I 512) 0) / ((I 499) 4) * ((I 499) 4))), some (.int (1 : Int32)), some (.int (1 : Int32))] [.int ((q_up r9.2.2.2.2.2.1 0 ((r9.2.2.2.2.2.1 0) + (1 : Int32))) 1), .ref 512] [(492, r9.2.1), (509, r9.2.2.1), (510, r9.2.2.2.1), (511, r9.2.2.2.2.1), (512, (q_up r9.2.2.2.2.2.1 0 ((r9.2.2.2.2.2.1 0) + (1 : Int32)))), (513, r9.2.2.2.2.2.2.1), (514, r9.2.2.2.2.2.2.2.1), (515, r9.2.2.2.2.2.2.2.2.1), (516, r9.2.2.2.2.2.2.2.2.2.1), (517, r9.2.2.2.2.2.2.2.2.2.2.1), (518, r9.2.2.2.2.2.2.2.2.2.2.2.1), (519, r9.2.2.2.2.2.2.2.2.2.2.2.2)] []) (P := (1 : Int32) = 0) ok_X14_goOn rfl q_cn (fun h13 => ?_) (fun h13 => ?_)
        · have hf := q_ip h13 hf
          refine q_blk 4 [] (c' := q_kc (t, r, m, 499, 529, ext, rx, L) I E 70 [some (.ref 512), some (.int (((I 512) 0) - ((I 512) 0) / ((I 499) 4) * ((I 499) 4))), some (.int (1 : Int32)), some (.int (1 : Int32))] [.int (1 : Int32)] [(492, r9.2.1), (509, r9.2.2.1), (510, r9.2.2.2.1), (511, r9.2.2.2.2.1), (512, (q_up (q_up r9.2.2.2.2.2.1 0 ((r9.2.2.2.2.2.1 0) + (1 : Int32))) 1 (((q_up r9.2.2.2.2.2.1 0 ((r9.2.2.2.2.2.1 0) + (1 : Int32))) 1) + (0 : Int32)))), (513, r9.2.2.2.2.2.2.1), (514, r9.2.2.2.2.2.2.2.1), (515, r9.2.2.2.2.2.2.2.2.1), (516, r9.2.2.2.2.2.2.2.2.2.1), (517, r9.2.2.2.2.2.2.2.2.2.2.1), (518, r9.2.2.2.2.2.2.2.2.2.2.2.1), (519, r9.2.2.2.2.2.2.2.2.2.2.2.2)] []) ok_X14_goOn rfl q_cn ?_
          cases hf
          exact q_kri ok_X14_goOn rfl rfl rfl (Nat.le_of_ble_eq_true rfl) (Nat.le_of_ble_eq_true rfl) ⟨rfl, q_hpe (q_fin [492, 509, 510, 511, 512, 513, 514, 515, 516, 517, 518, 519] rfl) (q_fin [] rfl)⟩
        · have hf := q_in h13 hf
          refine q_blf 1 [] (a := q_kc (t, r, m, 499, 529, ext, rx, L) I E 66 [some (.ref 512), some (.int (((I 512) 0) - ((I 512) 0) / ((I 499) 4) * ((I 499) 4))), some (.int (1 : Int32)), some (.int (1 : Int32))] [.int ((q_up r9.2.2.2.2.2.1 0 ((r9.2.2.2.2.2.1 0) + (1 : Int32))) 1), .ref 512] [(492, r9.2.1), (509, r9.2.2.1), (510, r9.2.2.2.1), (511, r9.2.2.2.2.1), (512, (q_up r9.2.2.2.2.2.1 0 ((r9.2.2.2.2.2.1 0) + (1 : Int32)))), (513, r9.2.2.2.2.2.2.1), (514, r9.2.2.2.2.2.2.2.1), (515, r9.2.2.2.2.2.2.2.2.1), (516, r9.2.2.2.2.2.2.2.2.2.1), (517, r9.2.2.2.2.2.2.2.2.2.2.1), (518, r9.2.2.2.2.2.2.2.2.2.2.2.1), (519, r9.2.2.2.2.2.2.2.2.2.2.2.2)] []) (b := q_kc (t, r, m, 499, 529, ext, rx, L) I E 64 [some (.ref 512), some (.int (((I 512) 0) - ((I 512) 0) / ((I 499) 4) * ((I 499) 4))), some (.int (1 : Int32)), some (.int (1 : Int32))] [.int ((q_up r9.2.2.2.2.2.1 0 ((r9.2.2.2.2.2.1 0) + (1 : Int32))) 1), .ref 512] [(492, r9.2.1), (509, r9.2.2.1), (510, r9.2.2.2.1), (511, r9.2.2.2.2.1), (512, (q_up r9.2.2.2.2.2.1 0 ((r9.2.2.2.2.2.1 0) + (1 : Int32)))), (513, r9.2.2.2.2.2.2.1), (514, r9.2.2.2.2.2.2.2.1), (515, r9.2.2.2.2.2.2.2.2.1), (516, r9.2.2.2.2.2.2.2.2.2.1), (517, r9.2.2.2.2.2.2.2.2.2.2.1), (518, r9.2.2.2.2.2.2.2.2.2.2.2.1), (519, r9.2.2.2.2.2.2.2.2.2.2.2.2)] []) (P := ¬ (1 : Int32) = 0) ok_X14_goOn rfl q_cn (fun h14 => ?_) (fun h14 => ?_)
          · have hf := q_ip h14 hf
            refine q_blk 4 [] (c' := q_kc (t, r, m, 499, 529, ext, rx, L) I E 70 [some (.ref 512), some (.int (((I 512) 0) - ((I 512) 0) / ((I 499) 4) * ((I 499) 4))), some (.int (1 : Int32)), some (.int (1 : Int32))] [.int (1 : Int32)] [(492, r9.2.1), (509, r9.2.2.1), (510, r9.2.2.2.1), (511, r9.2.2.2.2.1), (512, (q_up (q_up r9.2.2.2.2.2.1 0 ((r9.2.2.2.2.2.1 0) + (1 : Int32))) 1 (((q_up r9.2.2.2.2.2.1 0 ((r9.2.2.2.2.2.1 0) + (1 : Int32))) 1) + (0 : Int32)))), (513, r9.2.2.2.2.2.2.1), (514, r9.2.2.2.2.2.2.2.1), (515, r9.2.2.2.2.2.2.2.2.1), (516, r9.2.2.2.2.2.2.2.2.2.1), (517, r9.2.2.2.2.2.2.2.2.2.2.1), (518, r9.2.2.2.2.2.2.2.2.2.2.2.1), (519, r9.2.2.2.2.2.2.2.2.2.2.2.2)] []) ok_X14_goOn rfl q_cn ?_
            cases hf
            exact q_kri ok_X14_goOn rfl rfl rfl (Nat.le_of_ble_eq_true rfl) (Nat.le_of_ble_eq_true rfl) ⟨rfl, q_hpe (q_fin [492, 509, 510, 511, 512, 513, 514, 515, 516, 517, 518, 519] rfl) (q_fin [] rfl)⟩
          · have hf := q_in h14 hf
            refine q_blk 5 [] (c' := q_kc (t, r, m, 499, 529, ext, rx, L) I E 70 [some (.ref 512), some (.int (((I 512) 0) - ((I 512) 0) / ((I 499) 4) * ((I 499) 4))), some (.int (1 : Int32)), some (.int (1 : Int32))] [.int (1 : Int32)] [(492, r9.2.1), (509, r9.2.2.1), (510, r9.2.2.2.1), (511, r9.2.2.2.2.1), (512, (q_up (q_up r9.2.2.2.2.2.1 0 ((r9.2.2.2.2.2.1 0) + (1 : Int32))) 1 (((q_up r9.2.2.2.2.2.1 0 ((r9.2.2.2.2.2.1 0) + (1 : Int32))) 1) + (1 : Int32)))), (513, r9.2.2.2.2.2.2.1), (514, r9.2.2.2.2.2.2.2.1), (515, r9.2.2.2.2.2.2.2.2.1), (516, r9.2.2.2.2.2.2.2.2.2.1), (517, r9.2.2.2.2.2.2.2.2.2.2.1), (518, r9.2.2.2.2.2.2.2.2.2.2.2.1), (519, r9.2.2.2.2.2.2.2.2.2.2.2.2)] []) ok_X14_goOn rfl q_cn ?_
            cases hf
            exact q_kri ok_X14_goOn rfl rfl rfl (Nat.le_of_ble_eq_true rfl) (Nat.le_of_ble_eq_true rfl) ⟨rfl, q_hpe (q_fin [492, 509, 510, 511, 512, 513, 514, 515, 516, 517, 518, 519] rfl) (q_fin [] rfl)⟩
  · have hf := q_in h5 hf
    obtain ⟨j15, hj15, hf⟩ := q_bd hf
    obtain ⟨j16, hj16, hf⟩ := q_bd hf
    refine q_blk 13 [j15, j16] (c' := q_kc (t, r, m, 499, 529, ext, rx, L) I E 34 [some (.ref 512), some (.int (((I 512) 0) - ((I 512) 0) / ((I 499) 4) * ((I 499) 4))), none, none] [.int ((I 506) j16), .int ((I 505) j15), .ref 512] [] []) ok_X14_goOn rfl (q_cc hj16 (q_cc hj15 q_cn)) ?_
    obtain ⟨r17, hr17, hf⟩ := q_bd hf
    refine q_kV (M2 := m_X14_carryOut) (As := [.int ((I 505) j15), .int ((I 506) j16)]) (b := 512) (v2 := some (.int r17.1)) ok_X14_goOn ok_X14_carryOut cv_X14_carryOut (ct_X14_carryOut_512 (d := 4) (Nat.le_refl _) hr17) rfl rfl (Or.inl rfl) rfl rfl rfl rfl (Nat.le_trans (Nat.le_of_ble_eq_true rfl) hd) (Nat.le_of_ble_eq_true rfl) (Nat.le_of_ble_eq_true rfl) (Nat.le_of_ble_eq_true rfl) (fun x hx => absurd hx List.not_mem_nil) (q_nmL0 _) (q_nmS0 _) rfl (pos' := 35) (st' := [.int r17.1]) (lI' := [(509, r17.2)]) (lE' := []) rfl rfl rfl rfl ?_
    refine q_blf 1 [] (a := q_kc (t, r, m, 499, 529, ext, rx, L) I E 39 [some (.ref 512), some (.int (((I 512) 0) - ((I 512) 0) / ((I 499) 4) * ((I 499) 4))), none, none] [] [(509, r17.2)] []) (b := q_kc (t, r, m, 499, 529, ext, rx, L) I E 37 [some (.ref 512), some (.int (((I 512) 0) - ((I 512) 0) / ((I 499) 4) * ((I 499) 4))), none, none] [] [(509, r17.2)] []) (P := ¬ r17.1 = (1 : Int32)) ok_X14_goOn rfl q_cn (fun h18 => ?_) (fun h18 => ?_)
    · have hf := q_ip h18 hf
      refine q_blf 3 [] (a := q_kc (t, r, m, 499, 529, ext, rx, L) I E 49 [some (.ref 512), some (.int (((I 512) 0) - ((I 512) 0) / ((I 499) 4) * ((I 499) 4))), some (.int (0 : Int32)), none] [] [(509, r17.2)] []) (b := q_kc (t, r, m, 499, 529, ext, rx, L) I E 43 [some (.ref 512), some (.int (((I 512) 0) - ((I 512) 0) / ((I 499) 4) * ((I 499) 4))), some (.int (0 : Int32)), none] [] [(509, r17.2)] []) (P := (0 : Int32) = 0) ok_X14_goOn rfl q_cn (fun h19 => ?_) (fun h19 => ?_)
      · have hf := q_ip h19 hf
        refine q_blf 12 [] (a := q_kc (t, r, m, 499, 529, ext, rx, L) I E 66 [some (.ref 512), some (.int (((I 512) 0) - ((I 512) 0) / ((I 499) 4) * ((I 499) 4))), some (.int (0 : Int32)), some (.int (0 : Int32))] [.int ((q_up (I 512) 0 (((I 512) 0) + (1 : Int32))) 1), .ref 512] [(509, r17.2), (512, (q_up (I 512) 0 (((I 512) 0) + (1 : Int32))))] []) (b := q_kc (t, r, m, 499, 529, ext, rx, L) I E 62 [some (.ref 512), some (.int (((I 512) 0) - ((I 512) 0) / ((I 499) 4) * ((I 499) 4))), some (.int (0 : Int32)), some (.int (0 : Int32))] [.int ((q_up (I 512) 0 (((I 512) 0) + (1 : Int32))) 1), .ref 512] [(509, r17.2), (512, (q_up (I 512) 0 (((I 512) 0) + (1 : Int32))))] []) (P := (0 : Int32) = 0) ok_X14_goOn rfl q_cn (fun h20 => ?_) (fun h20 => ?_)
        · have hf := q_ip h20 hf
          refine q_blk 4 [] (c' := q_kc (t, r, m, 499, 529, ext, rx, L) I E 70 [some (.ref 512), some (.int (((I 512) 0) - ((I 512) 0) / ((I 499) 4) * ((I 499) 4))), some (.int (0 : Int32)), some (.int (0 : Int32))] [.int (0 : Int32)] [(509, r17.2), (512, (q_up (q_up (I 512) 0 (((I 512) 0) + (1 : Int32))) 1 (((q_up (I 512) 0 (((I 512) 0) + (1 : Int32))) 1) + (0 : Int32))))] []) ok_X14_goOn rfl q_cn ?_
          cases hf
          exact q_kri ok_X14_goOn rfl rfl rfl (Nat.le_of_ble_eq_true rfl) (Nat.le_of_ble_eq_true rfl) ⟨rfl, q_hpe (q_fin [492, 509, 510, 511, 512, 513, 514, 515, 516, 517, 518, 519] rfl) (q_fin [] rfl)⟩
        · have hf := q_in h20 hf
          refine q_blf 1 [] (a := q_kc (t, r, m, 499, 529, ext, rx, L) I E 66 [some (.ref 512), some (.int (((I 512) 0) - ((I 512) 0) / ((I 499) 4) * ((I 499) 4))), some (.int (0 : Int32)), some (.int (0 : Int32))] [.int ((q_up (I 512) 0 (((I 512) 0) + (1 : Int32))) 1), .ref 512] [(509, r17.2), (512, (q_up (I 512) 0 (((I 512) 0) + (1 : Int32))))] []) (b := q_kc (t, r, m, 499, 529, ext, rx, L) I E 64 [some (.ref 512), some (.int (((I 512) 0) - ((I 512) 0) / ((I 499) 4) * ((I 499) 4))), some (.int (0 : Int32)), some (.int (0 : Int32))] [.int ((q_up (I 512) 0 (((I 512) 0) + (1 : Int32))) 1), .ref 512] [(509, r17.2), (512, (q_up (I 512) 0 (((I 512) 0) + (1 : Int32))))] []) (P := ¬ (0 : Int32) = 0) ok_X14_goOn rfl q_cn (fun h21 => ?_) (fun h21 => ?_)
          · have hf := q_ip h21 hf
            refine q_blk 4 [] (c' := q_kc (t, r, m, 499, 529, ext, rx, L) I E 70 [some (.ref 512), some (.int (((I 512) 0) - ((I 512) 0) / ((I 499) 4) * ((I 499) 4))), some (.int (0 : Int32)), some (.int (0 : Int32))] [.int (0 : Int32)] [(509, r17.2), (512, (q_up (q_up (I 512) 0 (((I 512) 0) + (1 : Int32))) 1 (((q_up (I 512) 0 (((I 512) 0) + (1 : Int32))) 1) + (0 : Int32))))] []) ok_X14_goOn rfl q_cn ?_
            cases hf
            exact q_kri ok_X14_goOn rfl rfl rfl (Nat.le_of_ble_eq_true rfl) (Nat.le_of_ble_eq_true rfl) ⟨rfl, q_hpe (q_fin [492, 509, 510, 511, 512, 513, 514, 515, 516, 517, 518, 519] rfl) (q_fin [] rfl)⟩
          · have hf := q_in h21 hf
            refine q_blk 5 [] (c' := q_kc (t, r, m, 499, 529, ext, rx, L) I E 70 [some (.ref 512), some (.int (((I 512) 0) - ((I 512) 0) / ((I 499) 4) * ((I 499) 4))), some (.int (0 : Int32)), some (.int (0 : Int32))] [.int (0 : Int32)] [(509, r17.2), (512, (q_up (q_up (I 512) 0 (((I 512) 0) + (1 : Int32))) 1 (((q_up (I 512) 0 (((I 512) 0) + (1 : Int32))) 1) + (1 : Int32))))] []) ok_X14_goOn rfl q_cn ?_
            cases hf
            exact q_kri ok_X14_goOn rfl rfl rfl (Nat.le_of_ble_eq_true rfl) (Nat.le_of_ble_eq_true rfl) ⟨rfl, q_hpe (q_fin [492, 509, 510, 511, 512, 513, 514, 515, 516, 517, 518, 519] rfl) (q_fin [] rfl)⟩
      · have hf := q_in h19 hf
        refine q_blk 2 [] (c' := q_kc (t, r, m, 499, 529, ext, rx, L) I E 45 [some (.ref 512), some (.int (((I 512) 0) - ((I 512) 0) / ((I 499) 4) * ((I 499) 4))), some (.int (0 : Int32)), none] [.int (((I 512) 0) - ((I 512) 0) / ((I 499) 4) * ((I 499) 4)), .ref 512] [(509, r17.2)] []) ok_X14_goOn rfl q_cn ?_
        obtain ⟨r22, hr22, hf⟩ := q_bd hf
        refine q_kV (M2 := m_X14_isDone) (As := [.int (((I 512) 0) - ((I 512) 0) / ((I 499) 4) * ((I 499) 4))]) (b := 512) (v2 := some (.int (q_bz r22.1))) ok_X14_goOn ok_X14_isDone cv_X14_isDone (ct_X14_isDone_512 (d := 8) (Nat.le_refl _) hr22) rfl rfl (Or.inl rfl) rfl rfl rfl rfl (Nat.le_trans (Nat.le_of_ble_eq_true rfl) hd) (Nat.le_of_ble_eq_true rfl) (Nat.le_of_ble_eq_true rfl) (Nat.le_of_ble_eq_true rfl) (fun x hx => absurd hx List.not_mem_nil) (q_nmL0 _) (q_nmS0 _) rfl (pos' := 46) (st' := [.int (q_bz r22.1)]) (lI' := [(492, r22.2.1), (509, r22.2.2.1), (510, r22.2.2.2.1), (511, r22.2.2.2.2.1), (512, r22.2.2.2.2.2.1), (513, r22.2.2.2.2.2.2.1), (514, r22.2.2.2.2.2.2.2.1), (515, r22.2.2.2.2.2.2.2.2.1), (516, r22.2.2.2.2.2.2.2.2.2.1), (517, r22.2.2.2.2.2.2.2.2.2.2.1), (518, r22.2.2.2.2.2.2.2.2.2.2.2.1), (519, r22.2.2.2.2.2.2.2.2.2.2.2.2)]) (lE' := []) rfl rfl rfl rfl ?_
        refine q_blf 0 [] (a := q_kc (t, r, m, 499, 529, ext, rx, L) I E 49 [some (.ref 512), some (.int (((I 512) 0) - ((I 512) 0) / ((I 499) 4) * ((I 499) 4))), some (.int (0 : Int32)), none] [] [(492, r22.2.1), (509, r22.2.2.1), (510, r22.2.2.2.1), (511, r22.2.2.2.2.1), (512, r22.2.2.2.2.2.1), (513, r22.2.2.2.2.2.2.1), (514, r22.2.2.2.2.2.2.2.1), (515, r22.2.2.2.2.2.2.2.2.1), (516, r22.2.2.2.2.2.2.2.2.2.1), (517, r22.2.2.2.2.2.2.2.2.2.2.1), (518, r22.2.2.2.2.2.2.2.2.2.2.2.1), (519, r22.2.2.2.2.2.2.2.2.2.2.2.2)] []) (b := q_kc (t, r, m, 499, 529, ext, rx, L) I E 47 [some (.ref 512), some (.int (((I 512) 0) - ((I 512) 0) / ((I 499) 4) * ((I 499) 4))), some (.int (0 : Int32)), none] [] [(492, r22.2.1), (509, r22.2.2.1), (510, r22.2.2.2.1), (511, r22.2.2.2.2.1), (512, r22.2.2.2.2.2.1), (513, r22.2.2.2.2.2.2.1), (514, r22.2.2.2.2.2.2.2.1), (515, r22.2.2.2.2.2.2.2.2.1), (516, r22.2.2.2.2.2.2.2.2.2.1), (517, r22.2.2.2.2.2.2.2.2.2.2.1), (518, r22.2.2.2.2.2.2.2.2.2.2.2.1), (519, r22.2.2.2.2.2.2.2.2.2.2.2.2)] []) (P := (q_bz r22.1) = 0) ok_X14_goOn rfl q_cn (fun h23 => ?_) (fun h23 => ?_)
        · have hf := q_ip h23 hf
          refine q_blf 12 [] (a := q_kc (t, r, m, 499, 529, ext, rx, L) I E 66 [some (.ref 512), some (.int (((I 512) 0) - ((I 512) 0) / ((I 499) 4) * ((I 499) 4))), some (.int (0 : Int32)), some (.int (0 : Int32))] [.int ((q_up r22.2.2.2.2.2.1 0 ((r22.2.2.2.2.2.1 0) + (1 : Int32))) 1), .ref 512] [(492, r22.2.1), (509, r22.2.2.1), (510, r22.2.2.2.1), (511, r22.2.2.2.2.1), (512, (q_up r22.2.2.2.2.2.1 0 ((r22.2.2.2.2.2.1 0) + (1 : Int32)))), (513, r22.2.2.2.2.2.2.1), (514, r22.2.2.2.2.2.2.2.1), (515, r22.2.2.2.2.2.2.2.2.1), (516, r22.2.2.2.2.2.2.2.2.2.1), (517, r22.2.2.2.2.2.2.2.2.2.2.1), (518, r22.2.2.2.2.2.2.2.2.2.2.2.1), (519, r22.2.2.2.2.2.2.2.2.2.2.2.2)] []) (b := q_kc (t, r, m, 499, 529, ext, rx, L) I E 62 [some (.ref 512), some (.int (((I 512) 0) - ((I 512) 0) / ((I 499) 4) * ((I 499) 4))), some (.int (0 : Int32)), some (.int (0 : Int32))] [.int ((q_up r22.2.2.2.2.2.1 0 ((r22.2.2.2.2.2.1 0) + (1 : Int32))) 1), .ref 512] [(492, r22.2.1), (509, r22.2.2.1), (510, r22.2.2.2.1), (511, r22.2.2.2.2.1), (512, (q_up r22.2.2.2.2.2.1 0 ((r22.2.2.2.2.2.1 0) + (1 : Int32)))), (513, r22.2.2.2.2.2.2.1), (514, r22.2.2.2.2.2.2.2.1), (515, r22.2.2.2.2.2.2.2.2.1), (516, r22.2.2.2.2.2.2.2.2.2.1), (517, r22.2.2.2.2.2.2.2.2.2.2.1), (518, r22.2.2.2.2.2.2.2.2.2.2.2.1), (519, r22.2.2.2.2.2.2.2.2.2.2.2.2)] []) (P := (0 : Int32) = 0) ok_X14_goOn rfl q_cn (fun h24 => ?_) (fun h24 => ?_)
          · have hf := q_ip h24 hf
            refine q_blk 4 [] (c' := q_kc (t, r, m, 499, 529, ext, rx, L) I E 70 [some (.ref 512), some (.int (((I 512) 0) - ((I 512) 0) / ((I 499) 4) * ((I 499) 4))), some (.int (0 : Int32)), some (.int (0 : Int32))] [.int (0 : Int32)] [(492, r22.2.1), (509, r22.2.2.1), (510, r22.2.2.2.1), (511, r22.2.2.2.2.1), (512, (q_up (q_up r22.2.2.2.2.2.1 0 ((r22.2.2.2.2.2.1 0) + (1 : Int32))) 1 (((q_up r22.2.2.2.2.2.1 0 ((r22.2.2.2.2.2.1 0) + (1 : Int32))) 1) + (0 : Int32)))), (513, r22.2.2.2.2.2.2.1), (514, r22.2.2.2.2.2.2.2.1), (515, r22.2.2.2.2.2.2.2.2.1), (516, r22.2.2.2.2.2.2.2.2.2.1), (517, r22.2.2.2.2.2.2.2.2.2.2.1), (518, r22.2.2.2.2.2.2.2.2.2.2.2.1), (519, r22.2.2.2.2.2.2.2.2.2.2.2.2)] []) ok_X14_goOn rfl q_cn ?_
            cases hf
            exact q_kri ok_X14_goOn rfl rfl rfl (Nat.le_of_ble_eq_true rfl) (Nat.le_of_ble_eq_true rfl) ⟨rfl, q_hpe (q_fin [492, 509, 510, 511, 512, 513, 514, 515, 516, 517, 518, 519] rfl) (q_fin [] rfl)⟩
          · have hf := q_in h24 hf
            refine q_blf 1 [] (a := q_kc (t, r, m, 499, 529, ext, rx, L) I E 66 [some (.ref 512), some (.int (((I 512) 0) - ((I 512) 0) / ((I 499) 4) * ((I 499) 4))), some (.int (0 : Int32)), some (.int (0 : Int32))] [.int ((q_up r22.2.2.2.2.2.1 0 ((r22.2.2.2.2.2.1 0) + (1 : Int32))) 1), .ref 512] [(492, r22.2.1), (509, r22.2.2.1), (510, r22.2.2.2.1), (511, r22.2.2.2.2.1), (512, (q_up r22.2.2.2.2.2.1 0 ((r22.2.2.2.2.2.1 0) + (1 : Int32)))), (513, r22.2.2.2.2.2.2.1), (514, r22.2.2.2.2.2.2.2.1), (515, r22.2.2.2.2.2.2.2.2.1), (516, r22.2.2.2.2.2.2.2.2.2.1), (517, r22.2.2.2.2.2.2.2.2.2.2.1), (518, r22.2.2.2.2.2.2.2.2.2.2.2.1), (519, r22.2.2.2.2.2.2.2.2.2.2.2.2)] []) (b := q_kc (t, r, m, 499, 529, ext, rx, L) I E 64 [some (.ref 512), some (.int (((I 512) 0) - ((I 512) 0) / ((I 499) 4) * ((I 499) 4))), some (.int (0 : Int32)), some (.int (0 : Int32))] [.int ((q_up r22.2.2.2.2.2.1 0 ((r22.2.2.2.2.2.1 0) + (1 : Int32))) 1), .ref 512] [(492, r22.2.1), (509, r22.2.2.1), (510, r22.2.2.2.1), (511, r22.2.2.2.2.1), (512, (q_up r22.2.2.2.2.2.1 0 ((r22.2.2.2.2.2.1 0) + (1 : Int32)))), (513, r22.2.2.2.2.2.2.1), (514, r22.2.2.2.2.2.2.2.1), (515, r22.2.2.2.2.2.2.2.2.1), (516, r22.2.2.2.2.2.2.2.2.2.1), (517, r22.2.2.2.2.2.2.2.2.2.2.1), (518, r22.2.2.2.2.2.2.2.2.2.2.2.1), (519, r22.2.2.2.2.2.2.2.2.2.2.2.2)] []) (P := ¬ (0 : Int32) = 0) ok_X14_goOn rfl q_cn (fun h25 => ?_) (fun h25 => ?_)
            · have hf := q_ip h25 hf
              refine q_blk 4 [] (c' := q_kc (t, r, m, 499, 529, ext, rx, L) I E 70 [some (.ref 512), some (.int (((I 512) 0) - ((I 512) 0) / ((I 499) 4) * ((I 499) 4))), some (.int (0 : Int32)), some (.int (0 : Int32))] [.int (0 : Int32)] [(492, r22.2.1), (509, r22.2.2.1), (510, r22.2.2.2.1), (511, r22.2.2.2.2.1), (512, (q_up (q_up r22.2.2.2.2.2.1 0 ((r22.2.2.2.2.2.1 0) + (1 : Int32))) 1 (((q_up r22.2.2.2.2.2.1 0 ((r22.2.2.2.2.2.1 0) + (1 : Int32))) 1) + (0 : Int32)))), (513, r22.2.2.2.2.2.2.1), (514, r22.2.2.2.2.2.2.2.1), (515, r22.2.2.2.2.2.2.2.2.1), (516, r22.2.2.2.2.2.2.2.2.2.1), (517, r22.2.2.2.2.2.2.2.2.2.2.1), (518, r22.2.2.2.2.2.2.2.2.2.2.2.1), (519, r22.2.2.2.2.2.2.2.2.2.2.2.2)] []) ok_X14_goOn rfl q_cn ?_
              cases hf
              exact q_kri ok_X14_goOn rfl rfl rfl (Nat.le_of_ble_eq_true rfl) (Nat.le_of_ble_eq_true rfl) ⟨rfl, q_hpe (q_fin [492, 509, 510, 511, 512, 513, 514, 515, 516, 517, 518, 519] rfl) (q_fin [] rfl)⟩
            · have hf := q_in h25 hf
              refine q_blk 5 [] (c' := q_kc (t, r, m, 499, 529, ext, rx, L) I E 70 [some (.ref 512), some (.int (((I 512) 0) - ((I 512) 0) / ((I 499) 4) * ((I 499) 4))), some (.int (0 : Int32)), some (.int (0 : Int32))] [.int (0 : Int32)] [(492, r22.2.1), (509, r22.2.2.1), (510, r22.2.2.2.1), (511, r22.2.2.2.2.1), (512, (q_up (q_up r22.2.2.2.2.2.1 0 ((r22.2.2.2.2.2.1 0) + (1 : Int32))) 1 (((q_up r22.2.2.2.2.2.1 0 ((r22.2.2.2.2.2.1 0) + (1 : Int32))) 1) + (1 : Int32)))), (513, r22.2.2.2.2.2.2.1), (514, r22.2.2.2.2.2.2.2.1), (515, r22.2.2.2.2.2.2.2.2.1), (516, r22.2.2.2.2.2.2.2.2.2.1), (517, r22.2.2.2.2.2.2.2.2.2.2.1), (518, r22.2.2.2.2.2.2.2.2.2.2.2.1), (519, r22.2.2.2.2.2.2.2.2.2.2.2.2)] []) ok_X14_goOn rfl q_cn ?_
              cases hf
              exact q_kri ok_X14_goOn rfl rfl rfl (Nat.le_of_ble_eq_true rfl) (Nat.le_of_ble_eq_true rfl) ⟨rfl, q_hpe (q_fin [492, 509, 510, 511, 512, 513, 514, 515, 516, 517, 518, 519] rfl) (q_fin [] rfl)⟩
        · have hf := q_in h23 hf
          refine q_blf 13 [] (a := q_kc (t, r, m, 499, 529, ext, rx, L) I E 66 [some (.ref 512), some (.int (((I 512) 0) - ((I 512) 0) / ((I 499) 4) * ((I 499) 4))), some (.int (0 : Int32)), some (.int (1 : Int32))] [.int ((q_up r22.2.2.2.2.2.1 0 ((r22.2.2.2.2.2.1 0) + (1 : Int32))) 1), .ref 512] [(492, r22.2.1), (509, r22.2.2.1), (510, r22.2.2.2.1), (511, r22.2.2.2.2.1), (512, (q_up r22.2.2.2.2.2.1 0 ((r22.2.2.2.2.2.1 0) + (1 : Int32)))), (513, r22.2.2.2.2.2.2.1), (514, r22.2.2.2.2.2.2.2.1), (515, r22.2.2.2.2.2.2.2.2.1), (516, r22.2.2.2.2.2.2.2.2.2.1), (517, r22.2.2.2.2.2.2.2.2.2.2.1), (518, r22.2.2.2.2.2.2.2.2.2.2.2.1), (519, r22.2.2.2.2.2.2.2.2.2.2.2.2)] []) (b := q_kc (t, r, m, 499, 529, ext, rx, L) I E 62 [some (.ref 512), some (.int (((I 512) 0) - ((I 512) 0) / ((I 499) 4) * ((I 499) 4))), some (.int (0 : Int32)), some (.int (1 : Int32))] [.int ((q_up r22.2.2.2.2.2.1 0 ((r22.2.2.2.2.2.1 0) + (1 : Int32))) 1), .ref 512] [(492, r22.2.1), (509, r22.2.2.1), (510, r22.2.2.2.1), (511, r22.2.2.2.2.1), (512, (q_up r22.2.2.2.2.2.1 0 ((r22.2.2.2.2.2.1 0) + (1 : Int32)))), (513, r22.2.2.2.2.2.2.1), (514, r22.2.2.2.2.2.2.2.1), (515, r22.2.2.2.2.2.2.2.2.1), (516, r22.2.2.2.2.2.2.2.2.2.1), (517, r22.2.2.2.2.2.2.2.2.2.2.1), (518, r22.2.2.2.2.2.2.2.2.2.2.2.1), (519, r22.2.2.2.2.2.2.2.2.2.2.2.2)] []) (P := (0 : Int32) = 0) ok_X14_goOn rfl q_cn (fun h26 => ?_) (fun h26 => ?_)
          · have hf := q_ip h26 hf
            refine q_blk 4 [] (c' := q_kc (t, r, m, 499, 529, ext, rx, L) I E 70 [some (.ref 512), some (.int (((I 512) 0) - ((I 512) 0) / ((I 499) 4) * ((I 499) 4))), some (.int (0 : Int32)), some (.int (1 : Int32))] [.int (1 : Int32)] [(492, r22.2.1), (509, r22.2.2.1), (510, r22.2.2.2.1), (511, r22.2.2.2.2.1), (512, (q_up (q_up r22.2.2.2.2.2.1 0 ((r22.2.2.2.2.2.1 0) + (1 : Int32))) 1 (((q_up r22.2.2.2.2.2.1 0 ((r22.2.2.2.2.2.1 0) + (1 : Int32))) 1) + (0 : Int32)))), (513, r22.2.2.2.2.2.2.1), (514, r22.2.2.2.2.2.2.2.1), (515, r22.2.2.2.2.2.2.2.2.1), (516, r22.2.2.2.2.2.2.2.2.2.1), (517, r22.2.2.2.2.2.2.2.2.2.2.1), (518, r22.2.2.2.2.2.2.2.2.2.2.2.1), (519, r22.2.2.2.2.2.2.2.2.2.2.2.2)] []) ok_X14_goOn rfl q_cn ?_
            cases hf
            exact q_kri ok_X14_goOn rfl rfl rfl (Nat.le_of_ble_eq_true rfl) (Nat.le_of_ble_eq_true rfl) ⟨rfl, q_hpe (q_fin [492, 509, 510, 511, 512, 513, 514, 515, 516, 517, 518, 519] rfl) (q_fin [] rfl)⟩
          · have hf := q_in h26 hf
            refine q_blf 1 [] (a := q_kc (t, r, m, 499, 529, ext, rx, L) I E 66 [some (.ref 512), some (.int (((I 512) 0) - ((I 512) 0) / ((I 499) 4) * ((I 499) 4))), some (.int (0 : Int32)), some (.int (1 : Int32))] [.int ((q_up r22.2.2.2.2.2.1 0 ((r22.2.2.2.2.2.1 0) + (1 : Int32))) 1), .ref 512] [(492, r22.2.1), (509, r22.2.2.1), (510, r22.2.2.2.1), (511, r22.2.2.2.2.1), (512, (q_up r22.2.2.2.2.2.1 0 ((r22.2.2.2.2.2.1 0) + (1 : Int32)))), (513, r22.2.2.2.2.2.2.1), (514, r22.2.2.2.2.2.2.2.1), (515, r22.2.2.2.2.2.2.2.2.1), (516, r22.2.2.2.2.2.2.2.2.2.1), (517, r22.2.2.2.2.2.2.2.2.2.2.1), (518, r22.2.2.2.2.2.2.2.2.2.2.2.1), (519, r22.2.2.2.2.2.2.2.2.2.2.2.2)] []) (b := q_kc (t, r, m, 499, 529, ext, rx, L) I E 64 [some (.ref 512), some (.int (((I 512) 0) - ((I 512) 0) / ((I 499) 4) * ((I 499) 4))), some (.int (0 : Int32)), some (.int (1 : Int32))] [.int ((q_up r22.2.2.2.2.2.1 0 ((r22.2.2.2.2.2.1 0) + (1 : Int32))) 1), .ref 512] [(492, r22.2.1), (509, r22.2.2.1), (510, r22.2.2.2.1), (511, r22.2.2.2.2.1), (512, (q_up r22.2.2.2.2.2.1 0 ((r22.2.2.2.2.2.1 0) + (1 : Int32)))), (513, r22.2.2.2.2.2.2.1), (514, r22.2.2.2.2.2.2.2.1), (515, r22.2.2.2.2.2.2.2.2.1), (516, r22.2.2.2.2.2.2.2.2.2.1), (517, r22.2.2.2.2.2.2.2.2.2.2.1), (518, r22.2.2.2.2.2.2.2.2.2.2.2.1), (519, r22.2.2.2.2.2.2.2.2.2.2.2.2)] []) (P := ¬ (1 : Int32) = 0) ok_X14_goOn rfl q_cn (fun h27 => ?_) (fun h27 => ?_)
            · have hf := q_ip h27 hf
              refine q_blk 4 [] (c' := q_kc (t, r, m, 499, 529, ext, rx, L) I E 70 [some (.ref 512), some (.int (((I 512) 0) - ((I 512) 0) / ((I 499) 4) * ((I 499) 4))), some (.int (0 : Int32)), some (.int (1 : Int32))] [.int (1 : Int32)] [(492, r22.2.1), (509, r22.2.2.1), (510, r22.2.2.2.1), (511, r22.2.2.2.2.1), (512, (q_up (q_up r22.2.2.2.2.2.1 0 ((r22.2.2.2.2.2.1 0) + (1 : Int32))) 1 (((q_up r22.2.2.2.2.2.1 0 ((r22.2.2.2.2.2.1 0) + (1 : Int32))) 1) + (0 : Int32)))), (513, r22.2.2.2.2.2.2.1), (514, r22.2.2.2.2.2.2.2.1), (515, r22.2.2.2.2.2.2.2.2.1), (516, r22.2.2.2.2.2.2.2.2.2.1), (517, r22.2.2.2.2.2.2.2.2.2.2.1), (518, r22.2.2.2.2.2.2.2.2.2.2.2.1), (519, r22.2.2.2.2.2.2.2.2.2.2.2.2)] []) ok_X14_goOn rfl q_cn ?_
              cases hf
              exact q_kri ok_X14_goOn rfl rfl rfl (Nat.le_of_ble_eq_true rfl) (Nat.le_of_ble_eq_true rfl) ⟨rfl, q_hpe (q_fin [492, 509, 510, 511, 512, 513, 514, 515, 516, 517, 518, 519] rfl) (q_fin [] rfl)⟩
            · have hf := q_in h27 hf
              refine q_blk 5 [] (c' := q_kc (t, r, m, 499, 529, ext, rx, L) I E 70 [some (.ref 512), some (.int (((I 512) 0) - ((I 512) 0) / ((I 499) 4) * ((I 499) 4))), some (.int (0 : Int32)), some (.int (1 : Int32))] [.int (1 : Int32)] [(492, r22.2.1), (509, r22.2.2.1), (510, r22.2.2.2.1), (511, r22.2.2.2.2.1), (512, (q_up (q_up r22.2.2.2.2.2.1 0 ((r22.2.2.2.2.2.1 0) + (1 : Int32))) 1 (((q_up r22.2.2.2.2.2.1 0 ((r22.2.2.2.2.2.1 0) + (1 : Int32))) 1) + (1 : Int32)))), (513, r22.2.2.2.2.2.2.1), (514, r22.2.2.2.2.2.2.2.1), (515, r22.2.2.2.2.2.2.2.2.1), (516, r22.2.2.2.2.2.2.2.2.2.1), (517, r22.2.2.2.2.2.2.2.2.2.2.1), (518, r22.2.2.2.2.2.2.2.2.2.2.2.1), (519, r22.2.2.2.2.2.2.2.2.2.2.2.2)] []) ok_X14_goOn rfl q_cn ?_
              cases hf
              exact q_kri ok_X14_goOn rfl rfl rfl (Nat.le_of_ble_eq_true rfl) (Nat.le_of_ble_eq_true rfl) ⟨rfl, q_hpe (q_fin [492, 509, 510, 511, 512, 513, 514, 515, 516, 517, 518, 519] rfl) (q_fin [] rfl)⟩
    · have hf := q_in h18 hf
      refine q_blf 4 [] (a := q_kc (t, r, m, 499, 529, ext, rx, L) I E 49 [some (.ref 512), some (.int (((I 512) 0) - ((I 512) 0) / ((I 499) 4) * ((I 499) 4))), some (.int (1 : Int32)), none] [] [(509, r17.2)] []) (b := q_kc (t, r, m, 499, 529, ext, rx, L) I E 43 [some (.ref 512), some (.int (((I 512) 0) - ((I 512) 0) / ((I 499) 4) * ((I 499) 4))), some (.int (1 : Int32)), none] [] [(509, r17.2)] []) (P := (1 : Int32) = 0) ok_X14_goOn rfl q_cn (fun h28 => ?_) (fun h28 => ?_)
      · have hf := q_ip h28 hf
        refine q_blf 12 [] (a := q_kc (t, r, m, 499, 529, ext, rx, L) I E 66 [some (.ref 512), some (.int (((I 512) 0) - ((I 512) 0) / ((I 499) 4) * ((I 499) 4))), some (.int (1 : Int32)), some (.int (0 : Int32))] [.int ((q_up (I 512) 0 (((I 512) 0) + (1 : Int32))) 1), .ref 512] [(509, r17.2), (512, (q_up (I 512) 0 (((I 512) 0) + (1 : Int32))))] []) (b := q_kc (t, r, m, 499, 529, ext, rx, L) I E 62 [some (.ref 512), some (.int (((I 512) 0) - ((I 512) 0) / ((I 499) 4) * ((I 499) 4))), some (.int (1 : Int32)), some (.int (0 : Int32))] [.int ((q_up (I 512) 0 (((I 512) 0) + (1 : Int32))) 1), .ref 512] [(509, r17.2), (512, (q_up (I 512) 0 (((I 512) 0) + (1 : Int32))))] []) (P := (1 : Int32) = 0) ok_X14_goOn rfl q_cn (fun h29 => ?_) (fun h29 => ?_)
        · have hf := q_ip h29 hf
          refine q_blk 4 [] (c' := q_kc (t, r, m, 499, 529, ext, rx, L) I E 70 [some (.ref 512), some (.int (((I 512) 0) - ((I 512) 0) / ((I 499) 4) * ((I 499) 4))), some (.int (1 : Int32)), some (.int (0 : Int32))] [.int (0 : Int32)] [(509, r17.2), (512, (q_up (q_up (I 512) 0 (((I 512) 0) + (1 : Int32))) 1 (((q_up (I 512) 0 (((I 512) 0) + (1 : Int32))) 1) + (0 : Int32))))] []) ok_X14_goOn rfl q_cn ?_
          cases hf
          exact q_kri ok_X14_goOn rfl rfl rfl (Nat.le_of_ble_eq_true rfl) (Nat.le_of_ble_eq_true rfl) ⟨rfl, q_hpe (q_fin [492, 509, 510, 511, 512, 513, 514, 515, 516, 517, 518, 519] rfl) (q_fin [] rfl)⟩
        · have hf := q_in h29 hf
          refine q_blf 1 [] (a := q_kc (t, r, m, 499, 529, ext, rx, L) I E 66 [some (.ref 512), some (.int (((I 512) 0) - ((I 512) 0) / ((I 499) 4) * ((I 499) 4))), some (.int (1 : Int32)), some (.int (0 : Int32))] [.int ((q_up (I 512) 0 (((I 512) 0) + (1 : Int32))) 1), .ref 512] [(509, r17.2), (512, (q_up (I 512) 0 (((I 512) 0) + (1 : Int32))))] []) (b := q_kc (t, r, m, 499, 529, ext, rx, L) I E 64 [some (.ref 512), some (.int (((I 512) 0) - ((I 512) 0) / ((I 499) 4) * ((I 499) 4))), some (.int (1 : Int32)), some (.int (0 : Int32))] [.int ((q_up (I 512) 0 (((I 512) 0) + (1 : Int32))) 1), .ref 512] [(509, r17.2), (512, (q_up (I 512) 0 (((I 512) 0) + (1 : Int32))))] []) (P := ¬ (0 : Int32) = 0) ok_X14_goOn rfl q_cn (fun h30 => ?_) (fun h30 => ?_)
          · have hf := q_ip h30 hf
            refine q_blk 4 [] (c' := q_kc (t, r, m, 499, 529, ext, rx, L) I E 70 [some (.ref 512), some (.int (((I 512) 0) - ((I 512) 0) / ((I 499) 4) * ((I 499) 4))), some (.int (1 : Int32)), some (.int (0 : Int32))] [.int (0 : Int32)] [(509, r17.2), (512, (q_up (q_up (I 512) 0 (((I 512) 0) + (1 : Int32))) 1 (((q_up (I 512) 0 (((I 512) 0) + (1 : Int32))) 1) + (0 : Int32))))] []) ok_X14_goOn rfl q_cn ?_
            cases hf
            exact q_kri ok_X14_goOn rfl rfl rfl (Nat.le_of_ble_eq_true rfl) (Nat.le_of_ble_eq_true rfl) ⟨rfl, q_hpe (q_fin [492, 509, 510, 511, 512, 513, 514, 515, 516, 517, 518, 519] rfl) (q_fin [] rfl)⟩
          · have hf := q_in h30 hf
            refine q_blk 5 [] (c' := q_kc (t, r, m, 499, 529, ext, rx, L) I E 70 [some (.ref 512), some (.int (((I 512) 0) - ((I 512) 0) / ((I 499) 4) * ((I 499) 4))), some (.int (1 : Int32)), some (.int (0 : Int32))] [.int (0 : Int32)] [(509, r17.2), (512, (q_up (q_up (I 512) 0 (((I 512) 0) + (1 : Int32))) 1 (((q_up (I 512) 0 (((I 512) 0) + (1 : Int32))) 1) + (1 : Int32))))] []) ok_X14_goOn rfl q_cn ?_
            cases hf
            exact q_kri ok_X14_goOn rfl rfl rfl (Nat.le_of_ble_eq_true rfl) (Nat.le_of_ble_eq_true rfl) ⟨rfl, q_hpe (q_fin [492, 509, 510, 511, 512, 513, 514, 515, 516, 517, 518, 519] rfl) (q_fin [] rfl)⟩
      · have hf := q_in h28 hf
        refine q_blk 2 [] (c' := q_kc (t, r, m, 499, 529, ext, rx, L) I E 45 [some (.ref 512), some (.int (((I 512) 0) - ((I 512) 0) / ((I 499) 4) * ((I 499) 4))), some (.int (1 : Int32)), none] [.int (((I 512) 0) - ((I 512) 0) / ((I 499) 4) * ((I 499) 4)), .ref 512] [(509, r17.2)] []) ok_X14_goOn rfl q_cn ?_
        obtain ⟨r31, hr31, hf⟩ := q_bd hf
        refine q_kV (M2 := m_X14_isDone) (As := [.int (((I 512) 0) - ((I 512) 0) / ((I 499) 4) * ((I 499) 4))]) (b := 512) (v2 := some (.int (q_bz r31.1))) ok_X14_goOn ok_X14_isDone cv_X14_isDone (ct_X14_isDone_512 (d := 8) (Nat.le_refl _) hr31) rfl rfl (Or.inl rfl) rfl rfl rfl rfl (Nat.le_trans (Nat.le_of_ble_eq_true rfl) hd) (Nat.le_of_ble_eq_true rfl) (Nat.le_of_ble_eq_true rfl) (Nat.le_of_ble_eq_true rfl) (fun x hx => absurd hx List.not_mem_nil) (q_nmL0 _) (q_nmS0 _) rfl (pos' := 46) (st' := [.int (q_bz r31.1)]) (lI' := [(492, r31.2.1), (509, r31.2.2.1), (510, r31.2.2.2.1), (511, r31.2.2.2.2.1), (512, r31.2.2.2.2.2.1), (513, r31.2.2.2.2.2.2.1), (514, r31.2.2.2.2.2.2.2.1), (515, r31.2.2.2.2.2.2.2.2.1), (516, r31.2.2.2.2.2.2.2.2.2.1), (517, r31.2.2.2.2.2.2.2.2.2.2.1), (518, r31.2.2.2.2.2.2.2.2.2.2.2.1), (519, r31.2.2.2.2.2.2.2.2.2.2.2.2)]) (lE' := []) rfl rfl rfl rfl ?_
        refine q_blf 0 [] (a := q_kc (t, r, m, 499, 529, ext, rx, L) I E 49 [some (.ref 512), some (.int (((I 512) 0) - ((I 512) 0) / ((I 499) 4) * ((I 499) 4))), some (.int (1 : Int32)), none] [] [(492, r31.2.1), (509, r31.2.2.1), (510, r31.2.2.2.1), (511, r31.2.2.2.2.1), (512, r31.2.2.2.2.2.1), (513, r31.2.2.2.2.2.2.1), (514, r31.2.2.2.2.2.2.2.1), (515, r31.2.2.2.2.2.2.2.2.1), (516, r31.2.2.2.2.2.2.2.2.2.1), (517, r31.2.2.2.2.2.2.2.2.2.2.1), (518, r31.2.2.2.2.2.2.2.2.2.2.2.1), (519, r31.2.2.2.2.2.2.2.2.2.2.2.2)] []) (b := q_kc (t, r, m, 499, 529, ext, rx, L) I E 47 [some (.ref 512), some (.int (((I 512) 0) - ((I 512) 0) / ((I 499) 4) * ((I 499) 4))), some (.int (1 : Int32)), none] [] [(492, r31.2.1), (509, r31.2.2.1), (510, r31.2.2.2.1), (511, r31.2.2.2.2.1), (512, r31.2.2.2.2.2.1), (513, r31.2.2.2.2.2.2.1), (514, r31.2.2.2.2.2.2.2.1), (515, r31.2.2.2.2.2.2.2.2.1), (516, r31.2.2.2.2.2.2.2.2.2.1), (517, r31.2.2.2.2.2.2.2.2.2.2.1), (518, r31.2.2.2.2.2.2.2.2.2.2.2.1), (519, r31.2.2.2.2.2.2.2.2.2.2.2.2)] []) (P := (q_bz r31.1) = 0) ok_X14_goOn rfl q_cn (fun h32 => ?_) (fun h32 => ?_)
        · have hf := q_ip h32 hf
          refine q_blf 12 [] (a := q_kc (t, r, m, 499, 529, ext, rx, L) I E 66 [some (.ref 512), some (.int (((I 512) 0) - ((I 512) 0) / ((I 499) 4) * ((I 499) 4))), some (.int (1 : Int32)), some (.int (0 : Int32))] [.int ((q_up r31.2.2.2.2.2.1 0 ((r31.2.2.2.2.2.1 0) + (1 : Int32))) 1), .ref 512] [(492, r31.2.1), (509, r31.2.2.1), (510, r31.2.2.2.1), (511, r31.2.2.2.2.1), (512, (q_up r31.2.2.2.2.2.1 0 ((r31.2.2.2.2.2.1 0) + (1 : Int32)))), (513, r31.2.2.2.2.2.2.1), (514, r31.2.2.2.2.2.2.2.1), (515, r31.2.2.2.2.2.2.2.2.1), (516, r31.2.2.2.2.2.2.2.2.2.1), (517, r31.2.2.2.2.2.2.2.2.2.2.1), (518, r31.2.2.2.2.2.2.2.2.2.2.2.1), (519, r31.2.2.2.2.2.2.2.2.2.2.2.2)] []) (b := q_kc (t, r, m, 499, 529, ext, rx, L) I E 62 [some (.ref 512), some (.int (((I 512) 0) - ((I 512) 0) / ((I 499) 4) * ((I 499) 4))), some (.int (1 : Int32)), some (.int (0 : Int32))] [.int ((q_up r31.2.2.2.2.2.1 0 ((r31.2.2.2.2.2.1 0) + (1 : Int32))) 1), .ref 512] [(492, r31.2.1), (509, r31.2.2.1), (510, r31.2.2.2.1), (511, r31.2.2.2.2.1), (512, (q_up r31.2.2.2.2.2.1 0 ((r31.2.2.2.2.2.1 0) + (1 : Int32)))), (513, r31.2.2.2.2.2.2.1), (514, r31.2.2.2.2.2.2.2.1), (515, r31.2.2.2.2.2.2.2.2.1), (516, r31.2.2.2.2.2.2.2.2.2.1), (517, r31.2.2.2.2.2.2.2.2.2.2.1), (518, r31.2.2.2.2.2.2.2.2.2.2.2.1), (519, r31.2.2.2.2.2.2.2.2.2.2.2.2)] []) (P := (1 : Int32) = 0) ok_X14_goOn rfl q_cn (fun h33 => ?_) (fun h33 => ?_)
          · have hf := q_ip h33 hf
            refine q_blk 4 [] (c' := q_kc (t, r, m, 499, 529, ext, rx, L) I E 70 [some (.ref 512), some (.int (((I 512) 0) - ((I 512) 0) / ((I 499) 4) * ((I 499) 4))), some (.int (1 : Int32)), some (.int (0 : Int32))] [.int (0 : Int32)] [(492, r31.2.1), (509, r31.2.2.1), (510, r31.2.2.2.1), (511, r31.2.2.2.2.1), (512, (q_up (q_up r31.2.2.2.2.2.1 0 ((r31.2.2.2.2.2.1 0) + (1 : Int32))) 1 (((q_up r31.2.2.2.2.2.1 0 ((r31.2.2.2.2.2.1 0) + (1 : Int32))) 1) + (0 : Int32)))), (513, r31.2.2.2.2.2.2.1), (514, r31.2.2.2.2.2.2.2.1), (515, r31.2.2.2.2.2.2.2.2.1), (516, r31.2.2.2.2.2.2.2.2.2.1), (517, r31.2.2.2.2.2.2.2.2.2.2.1), (518, r31.2.2.2.2.2.2.2.2.2.2.2.1), (519, r31.2.2.2.2.2.2.2.2.2.2.2.2)] []) ok_X14_goOn rfl q_cn ?_
            cases hf
            exact q_kri ok_X14_goOn rfl rfl rfl (Nat.le_of_ble_eq_true rfl) (Nat.le_of_ble_eq_true rfl) ⟨rfl, q_hpe (q_fin [492, 509, 510, 511, 512, 513, 514, 515, 516, 517, 518, 519] rfl) (q_fin [] rfl)⟩
          · have hf := q_in h33 hf
            refine q_blf 1 [] (a := q_kc (t, r, m, 499, 529, ext, rx, L) I E 66 [some (.ref 512), some (.int (((I 512) 0) - ((I 512) 0) / ((I 499) 4) * ((I 499) 4))), some (.int (1 : Int32)), some (.int (0 : Int32))] [.int ((q_up r31.2.2.2.2.2.1 0 ((r31.2.2.2.2.2.1 0) + (1 : Int32))) 1), .ref 512] [(492, r31.2.1), (509, r31.2.2.1), (510, r31.2.2.2.1), (511, r31.2.2.2.2.1), (512, (q_up r31.2.2.2.2.2.1 0 ((r31.2.2.2.2.2.1 0) + (1 : Int32)))), (513, r31.2.2.2.2.2.2.1), (514, r31.2.2.2.2.2.2.2.1), (515, r31.2.2.2.2.2.2.2.2.1), (516, r31.2.2.2.2.2.2.2.2.2.1), (517, r31.2.2.2.2.2.2.2.2.2.2.1), (518, r31.2.2.2.2.2.2.2.2.2.2.2.1), (519, r31.2.2.2.2.2.2.2.2.2.2.2.2)] []) (b := q_kc (t, r, m, 499, 529, ext, rx, L) I E 64 [some (.ref 512), some (.int (((I 512) 0) - ((I 512) 0) / ((I 499) 4) * ((I 499) 4))), some (.int (1 : Int32)), some (.int (0 : Int32))] [.int ((q_up r31.2.2.2.2.2.1 0 ((r31.2.2.2.2.2.1 0) + (1 : Int32))) 1), .ref 512] [(492, r31.2.1), (509, r31.2.2.1), (510, r31.2.2.2.1), (511, r31.2.2.2.2.1), (512, (q_up r31.2.2.2.2.2.1 0 ((r31.2.2.2.2.2.1 0) + (1 : Int32)))), (513, r31.2.2.2.2.2.2.1), (514, r31.2.2.2.2.2.2.2.1), (515, r31.2.2.2.2.2.2.2.2.1), (516, r31.2.2.2.2.2.2.2.2.2.1), (517, r31.2.2.2.2.2.2.2.2.2.2.1), (518, r31.2.2.2.2.2.2.2.2.2.2.2.1), (519, r31.2.2.2.2.2.2.2.2.2.2.2.2)] []) (P := ¬ (0 : Int32) = 0) ok_X14_goOn rfl q_cn (fun h34 => ?_) (fun h34 => ?_)
            · have hf := q_ip h34 hf
              refine q_blk 4 [] (c' := q_kc (t, r, m, 499, 529, ext, rx, L) I E 70 [some (.ref 512), some (.int (((I 512) 0) - ((I 512) 0) / ((I 499) 4) * ((I 499) 4))), some (.int (1 : Int32)), some (.int (0 : Int32))] [.int (0 : Int32)] [(492, r31.2.1), (509, r31.2.2.1), (510, r31.2.2.2.1), (511, r31.2.2.2.2.1), (512, (q_up (q_up r31.2.2.2.2.2.1 0 ((r31.2.2.2.2.2.1 0) + (1 : Int32))) 1 (((q_up r31.2.2.2.2.2.1 0 ((r31.2.2.2.2.2.1 0) + (1 : Int32))) 1) + (0 : Int32)))), (513, r31.2.2.2.2.2.2.1), (514, r31.2.2.2.2.2.2.2.1), (515, r31.2.2.2.2.2.2.2.2.1), (516, r31.2.2.2.2.2.2.2.2.2.1), (517, r31.2.2.2.2.2.2.2.2.2.2.1), (518, r31.2.2.2.2.2.2.2.2.2.2.2.1), (519, r31.2.2.2.2.2.2.2.2.2.2.2.2)] []) ok_X14_goOn rfl q_cn ?_
              cases hf
              exact q_kri ok_X14_goOn rfl rfl rfl (Nat.le_of_ble_eq_true rfl) (Nat.le_of_ble_eq_true rfl) ⟨rfl, q_hpe (q_fin [492, 509, 510, 511, 512, 513, 514, 515, 516, 517, 518, 519] rfl) (q_fin [] rfl)⟩
            · have hf := q_in h34 hf
              refine q_blk 5 [] (c' := q_kc (t, r, m, 499, 529, ext, rx, L) I E 70 [some (.ref 512), some (.int (((I 512) 0) - ((I 512) 0) / ((I 499) 4) * ((I 499) 4))), some (.int (1 : Int32)), some (.int (0 : Int32))] [.int (0 : Int32)] [(492, r31.2.1), (509, r31.2.2.1), (510, r31.2.2.2.1), (511, r31.2.2.2.2.1), (512, (q_up (q_up r31.2.2.2.2.2.1 0 ((r31.2.2.2.2.2.1 0) + (1 : Int32))) 1 (((q_up r31.2.2.2.2.2.1 0 ((r31.2.2.2.2.2.1 0) + (1 : Int32))) 1) + (1 : Int32)))), (513, r31.2.2.2.2.2.2.1), (514, r31.2.2.2.2.2.2.2.1), (515, r31.2.2.2.2.2.2.2.2.1), (516, r31.2.2.2.2.2.2.2.2.2.1), (517, r31.2.2.2.2.2.2.2.2.2.2.1), (518, r31.2.2.2.2.2.2.2.2.2.2.2.1), (519, r31.2.2.2.2.2.2.2.2.2.2.2.2)] []) ok_X14_goOn rfl q_cn ?_
              cases hf
              exact q_kri ok_X14_goOn rfl rfl rfl (Nat.le_of_ble_eq_true rfl) (Nat.le_of_ble_eq_true rfl) ⟨rfl, q_hpe (q_fin [492, 509, 510, 511, 512, 513, 514, 515, 516, 517, 518, 519] rfl) (q_fin [] rfl)⟩
        · have hf := q_in h32 hf
          refine q_blf 13 [] (a := q_kc (t, r, m, 499, 529, ext, rx, L) I E 66 [some (.ref 512), some (.int (((I 512) 0) - ((I 512) 0) / ((I 499) 4) * ((I 499) 4))), some (.int (1 : Int32)), some (.int (1 : Int32))] [.int ((q_up r31.2.2.2.2.2.1 0 ((r31.2.2.2.2.2.1 0) + (1 : Int32))) 1), .ref 512] [(492, r31.2.1), (509, r31.2.2.1), (510, r31.2.2.2.1), (511, r31.2.2.2.2.1), (512, (q_up r31.2.2.2.2.2.1 0 ((r31.2.2.2.2.2.1 0) + (1 : Int32)))), (513, r31.2.2.2.2.2.2.1), (514, r31.2.2.2.2.2.2.2.1), (515, r31.2.2.2.2.2.2.2.2.1), (516, r31.2.2.2.2.2.2.2.2.2.1), (517, r31.2.2.2.2.2.2.2.2.2.2.1), (518, r31.2.2.2.2.2.2.2.2.2.2.2.1), (519, r31.2.2.2.2.2.2.2.2.2.2.2.2)] []) (b := q_kc (t, r, m, 499, 529, ext, rx, L) I E 62 [some (.ref 512), some (.int (((I 512) 0) - ((I 512) 0) / ((I 499) 4) * ((I 499) 4))), some (.int (1 : Int32)), some (.int (1 : Int32))] [.int ((q_up r31.2.2.2.2.2.1 0 ((r31.2.2.2.2.2.1 0) + (1 : Int32))) 1), .ref 512] [(492, r31.2.1), (509, r31.2.2.1), (510, r31.2.2.2.1), (511, r31.2.2.2.2.1), (512, (q_up r31.2.2.2.2.2.1 0 ((r31.2.2.2.2.2.1 0) + (1 : Int32)))), (513, r31.2.2.2.2.2.2.1), (514, r31.2.2.2.2.2.2.2.1), (515, r31.2.2.2.2.2.2.2.2.1), (516, r31.2.2.2.2.2.2.2.2.2.1), (517, r31.2.2.2.2.2.2.2.2.2.2.1), (518, r31.2.2.2.2.2.2.2.2.2.2.2.1), (519, r31.2.2.2.2.2.2.2.2.2.2.2.2)] []) (P := (1 : Int32) = 0) ok_X14_goOn rfl q_cn (fun h35 => ?_) (fun h35 => ?_)
          · have hf := q_ip h35 hf
            refine q_blk 4 [] (c' := q_kc (t, r, m, 499, 529, ext, rx, L) I E 70 [some (.ref 512), some (.int (((I 512) 0) - ((I 512) 0) / ((I 499) 4) * ((I 499) 4))), some (.int (1 : Int32)), some (.int (1 : Int32))] [.int (1 : Int32)] [(492, r31.2.1), (509, r31.2.2.1), (510, r31.2.2.2.1), (511, r31.2.2.2.2.1), (512, (q_up (q_up r31.2.2.2.2.2.1 0 ((r31.2.2.2.2.2.1 0) + (1 : Int32))) 1 (((q_up r31.2.2.2.2.2.1 0 ((r31.2.2.2.2.2.1 0) + (1 : Int32))) 1) + (0 : Int32)))), (513, r31.2.2.2.2.2.2.1), (514, r31.2.2.2.2.2.2.2.1), (515, r31.2.2.2.2.2.2.2.2.1), (516, r31.2.2.2.2.2.2.2.2.2.1), (517, r31.2.2.2.2.2.2.2.2.2.2.1), (518, r31.2.2.2.2.2.2.2.2.2.2.2.1), (519, r31.2.2.2.2.2.2.2.2.2.2.2.2)] []) ok_X14_goOn rfl q_cn ?_
            cases hf
            exact q_kri ok_X14_goOn rfl rfl rfl (Nat.le_of_ble_eq_true rfl) (Nat.le_of_ble_eq_true rfl) ⟨rfl, q_hpe (q_fin [492, 509, 510, 511, 512, 513, 514, 515, 516, 517, 518, 519] rfl) (q_fin [] rfl)⟩
          · have hf := q_in h35 hf
            refine q_blf 1 [] (a := q_kc (t, r, m, 499, 529, ext, rx, L) I E 66 [some (.ref 512), some (.int (((I 512) 0) - ((I 512) 0) / ((I 499) 4) * ((I 499) 4))), some (.int (1 : Int32)), some (.int (1 : Int32))] [.int ((q_up r31.2.2.2.2.2.1 0 ((r31.2.2.2.2.2.1 0) + (1 : Int32))) 1), .ref 512] [(492, r31.2.1), (509, r31.2.2.1), (510, r31.2.2.2.1), (511, r31.2.2.2.2.1), (512, (q_up r31.2.2.2.2.2.1 0 ((r31.2.2.2.2.2.1 0) + (1 : Int32)))), (513, r31.2.2.2.2.2.2.1), (514, r31.2.2.2.2.2.2.2.1), (515, r31.2.2.2.2.2.2.2.2.1), (516, r31.2.2.2.2.2.2.2.2.2.1), (517, r31.2.2.2.2.2.2.2.2.2.2.1), (518, r31.2.2.2.2.2.2.2.2.2.2.2.1), (519, r31.2.2.2.2.2.2.2.2.2.2.2.2)] []) (b := q_kc (t, r, m, 499, 529, ext, rx, L) I E 64 [some (.ref 512), some (.int (((I 512) 0) - ((I 512) 0) / ((I 499) 4) * ((I 499) 4))), some (.int (1 : Int32)), some (.int (1 : Int32))] [.int ((q_up r31.2.2.2.2.2.1 0 ((r31.2.2.2.2.2.1 0) + (1 : Int32))) 1), .ref 512] [(492, r31.2.1), (509, r31.2.2.1), (510, r31.2.2.2.1), (511, r31.2.2.2.2.1), (512, (q_up r31.2.2.2.2.2.1 0 ((r31.2.2.2.2.2.1 0) + (1 : Int32)))), (513, r31.2.2.2.2.2.2.1), (514, r31.2.2.2.2.2.2.2.1), (515, r31.2.2.2.2.2.2.2.2.1), (516, r31.2.2.2.2.2.2.2.2.2.1), (517, r31.2.2.2.2.2.2.2.2.2.2.1), (518, r31.2.2.2.2.2.2.2.2.2.2.2.1), (519, r31.2.2.2.2.2.2.2.2.2.2.2.2)] []) (P := ¬ (1 : Int32) = 0) ok_X14_goOn rfl q_cn (fun h36 => ?_) (fun h36 => ?_)
            · have hf := q_ip h36 hf
              refine q_blk 4 [] (c' := q_kc (t, r, m, 499, 529, ext, rx, L) I E 70 [some (.ref 512), some (.int (((I 512) 0) - ((I 512) 0) / ((I 499) 4) * ((I 499) 4))), some (.int (1 : Int32)), some (.int (1 : Int32))] [.int (1 : Int32)] [(492, r31.2.1), (509, r31.2.2.1), (510, r31.2.2.2.1), (511, r31.2.2.2.2.1), (512, (q_up (q_up r31.2.2.2.2.2.1 0 ((r31.2.2.2.2.2.1 0) + (1 : Int32))) 1 (((q_up r31.2.2.2.2.2.1 0 ((r31.2.2.2.2.2.1 0) + (1 : Int32))) 1) + (0 : Int32)))), (513, r31.2.2.2.2.2.2.1), (514, r31.2.2.2.2.2.2.2.1), (515, r31.2.2.2.2.2.2.2.2.1), (516, r31.2.2.2.2.2.2.2.2.2.1), (517, r31.2.2.2.2.2.2.2.2.2.2.1), (518, r31.2.2.2.2.2.2.2.2.2.2.2.1), (519, r31.2.2.2.2.2.2.2.2.2.2.2.2)] []) ok_X14_goOn rfl q_cn ?_
              cases hf
              exact q_kri ok_X14_goOn rfl rfl rfl (Nat.le_of_ble_eq_true rfl) (Nat.le_of_ble_eq_true rfl) ⟨rfl, q_hpe (q_fin [492, 509, 510, 511, 512, 513, 514, 515, 516, 517, 518, 519] rfl) (q_fin [] rfl)⟩
            · have hf := q_in h36 hf
              refine q_blk 5 [] (c' := q_kc (t, r, m, 499, 529, ext, rx, L) I E 70 [some (.ref 512), some (.int (((I 512) 0) - ((I 512) 0) / ((I 499) 4) * ((I 499) 4))), some (.int (1 : Int32)), some (.int (1 : Int32))] [.int (1 : Int32)] [(492, r31.2.1), (509, r31.2.2.1), (510, r31.2.2.2.1), (511, r31.2.2.2.2.1), (512, (q_up (q_up r31.2.2.2.2.2.1 0 ((r31.2.2.2.2.2.1 0) + (1 : Int32))) 1 (((q_up r31.2.2.2.2.2.1 0 ((r31.2.2.2.2.2.1 0) + (1 : Int32))) 1) + (1 : Int32)))), (513, r31.2.2.2.2.2.2.1), (514, r31.2.2.2.2.2.2.2.1), (515, r31.2.2.2.2.2.2.2.2.1), (516, r31.2.2.2.2.2.2.2.2.2.1), (517, r31.2.2.2.2.2.2.2.2.2.2.1), (518, r31.2.2.2.2.2.2.2.2.2.2.2.1), (519, r31.2.2.2.2.2.2.2.2.2.2.2.2)] []) ok_X14_goOn rfl q_cn ?_
              cases hf
              exact q_kri ok_X14_goOn rfl rfl rfl (Nat.le_of_ble_eq_true rfl) (Nat.le_of_ble_eq_true rfl) ⟨rfl, q_hpe (q_fin [492, 509, 510, 511, 512, 513, 514, 515, 516, 517, 518, 519] rfl) (q_fin [] rfl)⟩
set_option maxHeartbeats 4000000 in
theorem lp_X14_goOn__L4_512 {g : q_G} {d mc ms : Nat} {h0 : q_H} {Q : (Option Value ⊕ String) → q_H → Prop} {kE nE : Nat} {t : Nat} {r : Nat} {m : Nat} {ext : Nat → q_Sh} {rx : Nat → Nat → Option Nat} {L : Nat → Nat → Int64} (hd : 10 ≤ d)  {v1 : Int32} : ∀ (fu : Nat) {k n : Nat} {I : Nat → Nat → Int32} {E : Nat → Nat → Option Nat} {v2 : Int32} {v3 : Int32} {r0 : Int32 × (Nat → Int32) × (Nat → Int32) × (Nat → Int32) × (Nat → Int32) × (Nat → Int32) × (Nat → Int32) × (Nat → Int32) × (Nat → Int32) × (Nat → Int32) × (Nat → Int32) × (Nat → Int32) × (Nat → Int32)} (hk : k + fu * 1 ≤ kE) (hn : n + fu * 136 ≤ nE) (hk2 : kE ≤ mc) (hn2 : nE ≤ ms) (hf : f_X14_goOn__L4 (I 499) (I 500) (I 501) (I 502) (I 503) (I 504) (I 505) (I 506) (I 507) v1 fu (I 492) (I 509) (I 510) (I 511) (I 512) (I 513) (I 514) (I 515) (I 516) (I 517) (I 518) (I 519) v2 v3 = some r0) (hK0 : q_J g m_X14_goOn_ d mc ms h0 [] Q kE nE (q_kc (t, r, m, 499, 529, ext, rx, L) I E 18 [none, none, some (.int r0.1), none] [] [(492, r0.2.1), (509, r0.2.2.1), (510, r0.2.2.2.1), (511, r0.2.2.2.2.1), (512, r0.2.2.2.2.2.1), (513, r0.2.2.2.2.2.2.1), (514, r0.2.2.2.2.2.2.2.1), (515, r0.2.2.2.2.2.2.2.2.1), (516, r0.2.2.2.2.2.2.2.2.2.1), (517, r0.2.2.2.2.2.2.2.2.2.2.1), (518, r0.2.2.2.2.2.2.2.2.2.2.2.1), (519, r0.2.2.2.2.2.2.2.2.2.2.2.2)] [])), q_J g m_X14_goOn_ d mc ms h0 [] Q k n (4, [some (.ref 512), some (.int v1), some (.int v2), some (.int v3)], [], q_hp (t, r, m, 499, 529, ext, rx, L) I E) := by
  intro fu
  induction fu with
  | zero =>
    intro k n I E v2 v3 r0 hk hn hk2 hn2 hf hK0
    rw [f_X14_goOn__L4] at hf
    cases hf
  | succ fu ih =>
    intro k n I E v2 v3 r0 hk hn hk2 hn2 hf hK0
    rw [f_X14_goOn__L4] at hf
    change q_J g m_X14_goOn_ d mc ms h0 [] Q k n (q_kc (t, r, m, 499, 529, ext, rx, L) I E 4 [some (.ref 512), some (.int v1), some (.int v2), some (.int v3)] [] [] [])
    refine q_blf 2 [] (a := q_kc (t, r, m, 499, 529, ext, rx, L) I E 18 [some (.ref 512), some (.int v1), some (.int v2), some (.int v3)] [] [] []) (b := q_kc (t, r, m, 499, 529, ext, rx, L) I E 7 [some (.ref 512), some (.int v1), some (.int v2), some (.int v3)] [] [] []) (P := v1 ≤ v3) ok_X14_goOn_ rfl q_cn (fun h1 => ?_) (fun h1 => ?_)
    · have hf := q_ip h1 hf
      refine q_less (ls' := [none, none, some (.int v2), none]) (q_sb1 (q_sb1 (q_sb2 (q_sb1 q_sb0)))) ?_
      cases hf
      exact q_Jwd (by omega) (by omega) <| q_Jpad [492, 509, 510, 511, 512, 513, 514, 515, 516, 517, 518, 519] [] rfl rfl hK0
    · have hf := q_in h1 hf
      refine q_blk 2 [] (c' := q_kc (t, r, m, 499, 529, ext, rx, L) I E 9 [some (.ref 512), some (.int v1), some (.int v2), some (.int v3)] [.ref 512, .int v2] [] []) ok_X14_goOn_ rfl q_cn ?_
      obtain ⟨r2, hr2, hf⟩ := q_bd hf
      refine q_kV (M2 := m_X14_goOn) (As := []) (b := 512) (v2 := some (.int (q_bz r2.1))) ok_X14_goOn_ ok_X14_goOn cv_X14_goOn (ct_X14_goOn_512 (d := 9) (Nat.le_refl _) hr2) rfl rfl (Or.inl rfl) rfl rfl rfl rfl (Nat.le_trans (Nat.le_of_ble_eq_true rfl) hd) (by omega) (by omega) (Nat.le_of_ble_eq_true rfl) (fun x hx => absurd hx List.not_mem_nil) (q_nmL0 _) (q_nmS0 _) rfl (pos' := 10) (st' := [.int (q_bz r2.1), .int v2]) (lI' := [(492, r2.2.1), (509, r2.2.2.1), (510, r2.2.2.2.1), (511, r2.2.2.2.2.1), (512, r2.2.2.2.2.2.1), (513, r2.2.2.2.2.2.2.1), (514, r2.2.2.2.2.2.2.2.1), (515, r2.2.2.2.2.2.2.2.2.1), (516, r2.2.2.2.2.2.2.2.2.2.1), (517, r2.2.2.2.2.2.2.2.2.2.2.1), (518, r2.2.2.2.2.2.2.2.2.2.2.2.1), (519, r2.2.2.2.2.2.2.2.2.2.2.2.2)]) (lE' := []) rfl rfl rfl rfl ?_
      refine q_blf 0 [] (a := q_kc (t, r, m, 499, 529, ext, rx, L) I E 13 [some (.ref 512), some (.int v1), some (.int v2), some (.int v3)] [.int v2] [(492, r2.2.1), (509, r2.2.2.1), (510, r2.2.2.2.1), (511, r2.2.2.2.2.1), (512, r2.2.2.2.2.2.1), (513, r2.2.2.2.2.2.2.1), (514, r2.2.2.2.2.2.2.2.1), (515, r2.2.2.2.2.2.2.2.2.1), (516, r2.2.2.2.2.2.2.2.2.2.1), (517, r2.2.2.2.2.2.2.2.2.2.2.1), (518, r2.2.2.2.2.2.2.2.2.2.2.2.1), (519, r2.2.2.2.2.2.2.2.2.2.2.2.2)] []) (b := q_kc (t, r, m, 499, 529, ext, rx, L) I E 11 [some (.ref 512), some (.int v1), some (.int v2), some (.int v3)] [.int v2] [(492, r2.2.1), (509, r2.2.2.1), (510, r2.2.2.2.1), (511, r2.2.2.2.2.1), (512, r2.2.2.2.2.2.1), (513, r2.2.2.2.2.2.2.1), (514, r2.2.2.2.2.2.2.2.1), (515, r2.2.2.2.2.2.2.2.2.1), (516, r2.2.2.2.2.2.2.2.2.2.1), (517, r2.2.2.2.2.2.2.2.2.2.2.1), (518, r2.2.2.2.2.2.2.2.2.2.2.2.1), (519, r2.2.2.2.2.2.2.2.2.2.2.2.2)] []) (P := (q_bz r2.1) = 0) ok_X14_goOn_ rfl q_cn (fun h3 => ?_) (fun h3 => ?_)
      · have hf := q_ip h3 hf
        refine q_blk 5 [] (c' := q_kc (t, r, m, 499, 529, ext, rx, L) I E 4 [some (.ref 512), some (.int v1), some (.int (v2 + (0 : Int32))), some (.int (v3 + 1))] [] [(492, r2.2.1), (509, r2.2.2.1), (510, r2.2.2.2.1), (511, r2.2.2.2.2.1), (512, r2.2.2.2.2.2.1), (513, r2.2.2.2.2.2.2.1), (514, r2.2.2.2.2.2.2.2.1), (515, r2.2.2.2.2.2.2.2.2.1), (516, r2.2.2.2.2.2.2.2.2.2.1), (517, r2.2.2.2.2.2.2.2.2.2.2.1), (518, r2.2.2.2.2.2.2.2.2.2.2.2.1), (519, r2.2.2.2.2.2.2.2.2.2.2.2.2)] []) ok_X14_goOn_ rfl q_cn ?_
        exact ih (I := q_ws I [(492, r2.2.1), (509, r2.2.2.1), (510, r2.2.2.2.1), (511, r2.2.2.2.2.1), (512, r2.2.2.2.2.2.1), (513, r2.2.2.2.2.2.2.1), (514, r2.2.2.2.2.2.2.2.1), (515, r2.2.2.2.2.2.2.2.2.1), (516, r2.2.2.2.2.2.2.2.2.2.1), (517, r2.2.2.2.2.2.2.2.2.2.2.1), (518, r2.2.2.2.2.2.2.2.2.2.2.2.1), (519, r2.2.2.2.2.2.2.2.2.2.2.2.2)]) (E := q_ws E []) (by omega) (by omega) hf (q_Jmrg rfl rfl hK0)
      · have hf := q_in h3 hf
        refine q_blk 6 [] (c' := q_kc (t, r, m, 499, 529, ext, rx, L) I E 4 [some (.ref 512), some (.int v1), some (.int (v2 + (1 : Int32))), some (.int (v3 + 1))] [] [(492, r2.2.1), (509, r2.2.2.1), (510, r2.2.2.2.1), (511, r2.2.2.2.2.1), (512, r2.2.2.2.2.2.1), (513, r2.2.2.2.2.2.2.1), (514, r2.2.2.2.2.2.2.2.1), (515, r2.2.2.2.2.2.2.2.2.1), (516, r2.2.2.2.2.2.2.2.2.2.1), (517, r2.2.2.2.2.2.2.2.2.2.2.1), (518, r2.2.2.2.2.2.2.2.2.2.2.2.1), (519, r2.2.2.2.2.2.2.2.2.2.2.2.2)] []) ok_X14_goOn_ rfl q_cn ?_
        exact ih (I := q_ws I [(492, r2.2.1), (509, r2.2.2.1), (510, r2.2.2.2.1), (511, r2.2.2.2.2.1), (512, r2.2.2.2.2.2.1), (513, r2.2.2.2.2.2.2.1), (514, r2.2.2.2.2.2.2.2.1), (515, r2.2.2.2.2.2.2.2.2.1), (516, r2.2.2.2.2.2.2.2.2.2.1), (517, r2.2.2.2.2.2.2.2.2.2.2.1), (518, r2.2.2.2.2.2.2.2.2.2.2.2.1), (519, r2.2.2.2.2.2.2.2.2.2.2.2.2)]) (E := q_ws E []) (by omega) (by omega) hf (q_Jmrg rfl rfl hK0)
set_option maxHeartbeats 4000000 in
theorem ct_X14_goOn__512 {g : q_G} {t : Nat} {r : Nat} {m : Nat} {ext : Nat → q_Sh} {rx : Nat → Nat → Option Nat} {L : Nat → Nat → Int64} {d : Nat} (hd : 10 ≤ d)  {I : Nat → Nat → Int32} {E : Nat → Nat → Option Nat} {x1 : Int32} {r0 : Int32 × (Nat → Int32) × (Nat → Int32) × (Nat → Int32) × (Nat → Int32) × (Nat → Int32) × (Nat → Int32) × (Nat → Int32) × (Nat → Int32) × (Nat → Int32) × (Nat → Int32) × (Nat → Int32) × (Nat → Int32)} (hf : f_X14_goOn_ (I 492) (I 499) (I 500) (I 501) (I 502) (I 503) (I 504) (I 505) (I 506) (I 507) (I 509) (I 510) (I 511) (I 512) (I 513) (I 514) (I 515) (I 516) (I 517) (I 518) (I 519) x1 = some r0) : q_Ct g m_X14_goOn_ d 101 13736 [] [.ref 512, .int x1] (q_hp (t, r, m, 499, 529, ext, rx, L) I E) (fun o h' => o = .inl (some (.int r0.1)) ∧ h' = q_hp (t, r, m, 499, 529, ext, rx, L) (q_ws I [(492, r0.2.1), (509, r0.2.2.1), (510, r0.2.2.2.1), (511, r0.2.2.2.2.1), (512, r0.2.2.2.2.2.1), (513, r0.2.2.2.2.2.2.1), (514, r0.2.2.2.2.2.2.2.1), (515, r0.2.2.2.2.2.2.2.2.1), (516, r0.2.2.2.2.2.2.2.2.2.1), (517, r0.2.2.2.2.2.2.2.2.2.2.1), (518, r0.2.2.2.2.2.2.2.2.2.2.2.1), (519, r0.2.2.2.2.2.2.2.2.2.2.2.2)]) (q_ws E [])) := by
  rw [f_X14_goOn_] at hf
  refine q_Ct_of ok_X14_goOn_ (Nat.le_of_ble_eq_true rfl) ?_ _ rfl rfl
  change q_J g m_X14_goOn_ d 101 13736 _ [] _ 0 0 (q_kc (t, r, m, 499, 529, ext, rx, L) I E 0 [some (.ref 512), some (.int x1), none, none] [] [] [])
  refine q_blk 4 [] (c' := q_kc (t, r, m, 499, 529, ext, rx, L) I E 4 [some (.ref 512), some (.int x1), some (.int (0 : Int32)), some (.int (0 : Int32))] [] [] []) ok_X14_goOn_ rfl q_cn ?_
  obtain ⟨r4, hr4, hf⟩ := q_bd hf
  refine lp_X14_goOn__L4_512 (I := q_ws I []) (E := q_ws E []) (kE := 101) (nE := 13736) hd 101 (Nat.le_of_ble_eq_true rfl) (Nat.le_of_ble_eq_true rfl) (Nat.le_of_ble_eq_true rfl) (Nat.le_of_ble_eq_true rfl) hr4 ?_
  refine q_Jmrg (lI' := [(492, r4.2.1), (509, r4.2.2.1), (510, r4.2.2.2.1), (511, r4.2.2.2.2.1), (512, r4.2.2.2.2.2.1), (513, r4.2.2.2.2.2.2.1), (514, r4.2.2.2.2.2.2.2.1), (515, r4.2.2.2.2.2.2.2.2.1), (516, r4.2.2.2.2.2.2.2.2.2.1), (517, r4.2.2.2.2.2.2.2.2.2.2.1), (518, r4.2.2.2.2.2.2.2.2.2.2.2.1), (519, r4.2.2.2.2.2.2.2.2.2.2.2.2)]) (lE' := []) rfl rfl ?_
  refine q_blk 1 [] (c' := q_kc (t, r, m, 499, 529, ext, rx, L) I E 19 [none, none, some (.int r4.1), none] [.int r4.1] [(492, r4.2.1), (509, r4.2.2.1), (510, r4.2.2.2.1), (511, r4.2.2.2.2.1), (512, r4.2.2.2.2.2.1), (513, r4.2.2.2.2.2.2.1), (514, r4.2.2.2.2.2.2.2.1), (515, r4.2.2.2.2.2.2.2.2.1), (516, r4.2.2.2.2.2.2.2.2.2.1), (517, r4.2.2.2.2.2.2.2.2.2.2.1), (518, r4.2.2.2.2.2.2.2.2.2.2.2.1), (519, r4.2.2.2.2.2.2.2.2.2.2.2.2)] []) ok_X14_goOn_ rfl q_cn ?_
  cases hf
  exact q_kri ok_X14_goOn_ rfl rfl rfl (Nat.le_of_ble_eq_true rfl) (Nat.le_of_ble_eq_true rfl) ⟨rfl, q_hpe (q_fin [492, 509, 510, 511, 512, 513, 514, 515, 516, 517, 518, 519] rfl) (q_fin [] rfl)⟩
set_option maxHeartbeats 4000000 in
theorem ct_X15_work_492 {g : q_G} {t : Nat} {r : Nat} {m : Nat} {ext : Nat → q_Sh} {rx : Nat → Nat → Option Nat} {L : Nat → Nat → Int64} {d : Nat} (hd : 11 ≤ d)  {I : Nat → Nat → Int32} {E : Nat → Nat → Option Nat} {x1 : Int32} {r0 : Int32 × (Nat → Int32) × (Nat → Int32) × (Nat → Int32) × (Nat → Int32) × (Nat → Int32) × (Nat → Int32) × (Nat → Int32) × (Nat → Int32) × (Nat → Int32) × (Nat → Int32) × (Nat → Int32) × (Nat → Int32)} (hf : f_X15_work (I 492) (I 499) (I 500) (I 501) (I 502) (I 503) (I 504) (I 505) (I 506) (I 507) (I 509) (I 510) (I 511) (I 512) (I 513) (I 514) (I 515) (I 516) (I 517) (I 518) (I 519) x1 = some r0) : q_Ct g m_X15_work d 101 13736 [] [.ref 492, .int x1] (q_hp (t, r, m, 499, 529, ext, rx, L) I E) (fun o h' => o = .inl (some (.int r0.1)) ∧ h' = q_hp (t, r, m, 499, 529, ext, rx, L) (q_ws I [(492, r0.2.1), (509, r0.2.2.1), (510, r0.2.2.2.1), (511, r0.2.2.2.2.1), (512, r0.2.2.2.2.2.1), (513, r0.2.2.2.2.2.2.1), (514, r0.2.2.2.2.2.2.2.1), (515, r0.2.2.2.2.2.2.2.2.1), (516, r0.2.2.2.2.2.2.2.2.2.1), (517, r0.2.2.2.2.2.2.2.2.2.2.1), (518, r0.2.2.2.2.2.2.2.2.2.2.2.1), (519, r0.2.2.2.2.2.2.2.2.2.2.2.2)]) (q_ws E [])) := by
  rw [f_X15_work] at hf
  refine q_Ct_of ok_X15_work (Nat.le_of_ble_eq_true rfl) ?_ _ rfl rfl
  change q_J g m_X15_work d 101 13736 _ [] _ 0 0 (q_kc (t, r, m, 499, 529, ext, rx, L) I E 0 [some (.ref 492), some (.int x1)] [] [] [])
  refine q_blk 6 [] (c' := q_kc (t, r, m, 499, 529, ext, rx, L) I E 6 [some (.ref 492), some (.int x1)] [.int (100 : Int32), .int (1 : Int32), .int x1] [(492, (q_up (I 492) 0 (0 : Int32)))] []) ok_X15_work rfl q_cn ?_
  obtain ⟨r1, hr1, hf⟩ := q_bd hf
  refine q_kS (M2 := m_X15_isIn) (As := [.int x1, .int (1 : Int32), .int (100 : Int32)]) (v2 := some (.int (q_bz r1))) ok_X15_work ok_X15_isIn cs_X15_isIn (ct_X15_isIn (d := 1) (Nat.le_refl _) hr1) rfl rfl (Or.inl rfl) (Nat.le_trans (Nat.le_of_ble_eq_true rfl) hd) (Nat.le_of_ble_eq_true rfl) (Nat.le_of_ble_eq_true rfl) (Nat.le_of_ble_eq_true rfl) (fun x hx => absurd hx List.not_mem_nil) (q_nmL0 _) (q_nmS0 _) rfl (pos' := 7) (st' := [.int (q_bz r1)]) (lI' := [(492, (q_up (I 492) 0 (0 : Int32)))]) (lE' := []) rfl rfl rfl rfl ?_
  refine q_blf 0 [] (a := q_kc (t, r, m, 499, 529, ext, rx, L) I E 12 [some (.ref 492), some (.int x1)] [] [(492, (q_up (I 492) 0 (0 : Int32)))] []) (b := q_kc (t, r, m, 499, 529, ext, rx, L) I E 8 [some (.ref 492), some (.int x1)] [] [(492, (q_up (I 492) 0 (0 : Int32)))] []) (P := ¬ (q_bz r1) = 0) ok_X15_work rfl q_cn (fun h2 => ?_) (fun h2 => ?_)
  · have hf := q_ip h2 hf
    refine q_blf 3 [] (a := q_kc (t, r, m, 499, 529, ext, rx, L) I E 20 [some (.ref 492), some (.int x1)] [] [(492, (q_up (I 492) 0 (0 : Int32)))] []) (b := q_kc (t, r, m, 499, 529, ext, rx, L) I E 16 [some (.ref 492), some (.int x1)] [] [(492, (q_up (I 492) 0 (0 : Int32)))] []) (P := ¬ ((I 499) 4) = 0) ok_X15_work rfl q_cn (fun h3 => ?_) (fun h3 => ?_)
    · have hf := q_ip h3 hf
      refine q_blk 3 [] (c' := q_kc (t, r, m, 499, 529, ext, rx, L) I E 23 [some (.ref 492), some (.int x1)] [.int x1, .ref 512] [(492, (q_up (I 492) 0 (0 : Int32)))] []) ok_X15_work rfl q_cn ?_
      obtain ⟨r4, hr4, hf⟩ := q_bd hf
      refine q_kV (M2 := m_X14_goOn_) (As := [.int x1]) (b := 512) (v2 := some (.int r4.1)) ok_X15_work ok_X14_goOn_ cv_X14_goOn_ (ct_X14_goOn__512 (d := 10) (Nat.le_refl _) hr4) rfl rfl (Or.inl rfl) rfl rfl rfl rfl (Nat.le_trans (Nat.le_of_ble_eq_true rfl) hd) (Nat.le_of_ble_eq_true rfl) (Nat.le_of_ble_eq_true rfl) (Nat.le_of_ble_eq_true rfl) (fun x hx => absurd hx List.not_mem_nil) (q_nmL0 _) (q_nmS0 _) rfl (pos' := 24) (st' := [.int r4.1]) (lI' := [(492, r4.2.1), (509, r4.2.2.1), (510, r4.2.2.2.1), (511, r4.2.2.2.2.1), (512, r4.2.2.2.2.2.1), (513, r4.2.2.2.2.2.2.1), (514, r4.2.2.2.2.2.2.2.1), (515, r4.2.2.2.2.2.2.2.2.1), (516, r4.2.2.2.2.2.2.2.2.2.1), (517, r4.2.2.2.2.2.2.2.2.2.2.1), (518, r4.2.2.2.2.2.2.2.2.2.2.2.1), (519, r4.2.2.2.2.2.2.2.2.2.2.2.2)]) (lE' := []) rfl rfl rfl rfl ?_
      cases hf
      exact q_kri ok_X15_work rfl rfl rfl (Nat.le_of_ble_eq_true rfl) (Nat.le_of_ble_eq_true rfl) ⟨rfl, q_hpe (q_fin [492, 509, 510, 511, 512, 513, 514, 515, 516, 517, 518, 519] rfl) (q_fin [] rfl)⟩
    · have hf := q_in h3 hf
      refine q_blk 2 [] (c' := q_kc (t, r, m, 499, 529, ext, rx, L) I E 18 [some (.ref 492), some (.int x1)] [.int (2 : Int32), .ref 492] [(492, (q_up (I 492) 0 (0 : Int32)))] []) ok_X15_work rfl q_cn ?_
      obtain ⟨r5, hr5, hf⟩ := q_bd hf
      refine q_kV (M2 := m_X15_no) (As := [.int (2 : Int32)]) (b := 492) (v2 := some (.int r5.1)) ok_X15_work ok_X15_no cv_X15_no (ct_X15_no_492 (d := 1) (Nat.le_refl _) hr5) rfl rfl (Or.inl rfl) rfl rfl rfl rfl (Nat.le_trans (Nat.le_of_ble_eq_true rfl) hd) (Nat.le_of_ble_eq_true rfl) (Nat.le_of_ble_eq_true rfl) (Nat.le_of_ble_eq_true rfl) (fun x hx => absurd hx List.not_mem_nil) (q_nmL0 _) (q_nmS0 _) rfl (pos' := 19) (st' := [.int r5.1]) (lI' := [(492, r5.2)]) (lE' := []) rfl rfl rfl rfl ?_
      refine q_blk 1 [] (c' := q_kc (t, r, m, 499, 529, ext, rx, L) I E 24 [some (.ref 492), some (.int x1)] [.int r5.1] [(492, r5.2)] []) ok_X15_work rfl q_cn ?_
      cases hf
      exact q_kri ok_X15_work rfl rfl rfl (Nat.le_of_ble_eq_true rfl) (Nat.le_of_ble_eq_true rfl) ⟨rfl, q_hpe (q_fin [492, 509, 510, 511, 512, 513, 514, 515, 516, 517, 518, 519] rfl) (q_fin [] rfl)⟩
  · have hf := q_in h2 hf
    refine q_blk 2 [] (c' := q_kc (t, r, m, 499, 529, ext, rx, L) I E 10 [some (.ref 492), some (.int x1)] [.int (1 : Int32), .ref 492] [(492, (q_up (I 492) 0 (0 : Int32)))] []) ok_X15_work rfl q_cn ?_
    obtain ⟨r6, hr6, hf⟩ := q_bd hf
    refine q_kV (M2 := m_X15_no) (As := [.int (1 : Int32)]) (b := 492) (v2 := some (.int r6.1)) ok_X15_work ok_X15_no cv_X15_no (ct_X15_no_492 (d := 1) (Nat.le_refl _) hr6) rfl rfl (Or.inl rfl) rfl rfl rfl rfl (Nat.le_trans (Nat.le_of_ble_eq_true rfl) hd) (Nat.le_of_ble_eq_true rfl) (Nat.le_of_ble_eq_true rfl) (Nat.le_of_ble_eq_true rfl) (fun x hx => absurd hx List.not_mem_nil) (q_nmL0 _) (q_nmS0 _) rfl (pos' := 11) (st' := [.int r6.1]) (lI' := [(492, r6.2)]) (lE' := []) rfl rfl rfl rfl ?_
    cases hf
    exact q_kri ok_X15_work rfl rfl rfl (Nat.le_of_ble_eq_true rfl) (Nat.le_of_ble_eq_true rfl) ⟨rfl, q_hpe (q_fin [492, 509, 510, 511, 512, 513, 514, 515, 516, 517, 518, 519] rfl) (q_fin [] rfl)⟩
set_option maxHeartbeats 4000000 in
theorem ct_X14_copy_520_513_521 {g : q_G} {t : Nat} {r : Nat} {m : Nat} {z : Nat} {N : Nat} {ext : Nat → q_Sh} {rx : Nat → Nat → Option Nat} {L : Nat → Nat → Int64} {d : Nat} (hd : 2 ≤ d)  {I : Nat → Nat → Int32} {E : Nat → Nat → Option Nat} {r0 : (Nat → Int32)} (hf : f_X14_copy__2 (I 513) (I 521) = some r0) : q_Ct g m_X14_copy d 0 0 [] [.ref 520, .ref 513, .ref 521] (q_hp (t, r, m, z, N, ext, rx, L) I E) (fun o h' => o = .inl none ∧ h' = q_hp (t, r, m, z, N, ext, rx, L) (q_ws I [(521, r0)]) (q_ws E [])) := by
  rw [f_X14_copy__2] at hf
  refine q_Ct_of ok_X14_copy (Nat.le_of_ble_eq_true rfl) ?_ _ rfl rfl
  change q_J g m_X14_copy d 0 0 _ [] _ 0 0 (q_kc (t, r, m, z, N, ext, rx, L) I E 0 [some (.ref 520), some (.ref 513), some (.ref 521)] [] [] [])
  refine q_blk 6 [] (c' := q_kc (t, r, m, z, N, ext, rx, L) I E 6 [some (.ref 520), some (.ref 513), some (.ref 521)] [.int (nI 6), .int (0 : Int32), .ref 521, .int (0 : Int32), .ref 513] [] []) ok_X14_copy rfl q_cn ?_
  refine q_kcp (c := 6) (pos' := 7) (lI' := [(521, (q_cp (I 513) (I 521) 6))]) ok_X14_copy rfl rfl (Nat.le_trans (Nat.le_of_ble_eq_true rfl) hd) (Nat.le_of_ble_eq_true rfl) rfl rfl rfl rfl rfl rfl rfl rfl rfl rfl ?_
  cases hf
  exact q_krv ok_X14_copy rfl rfl (Nat.le_of_ble_eq_true rfl) (Nat.le_of_ble_eq_true rfl) ⟨rfl, q_hpe (q_fin [521] rfl) (q_fin [] rfl)⟩
set_option maxHeartbeats 4000000 in
theorem ct_X14_copy_520_514_522 {g : q_G} {t : Nat} {r : Nat} {m : Nat} {z : Nat} {N : Nat} {ext : Nat → q_Sh} {rx : Nat → Nat → Option Nat} {L : Nat → Nat → Int64} {d : Nat} (hd : 2 ≤ d)  {I : Nat → Nat → Int32} {E : Nat → Nat → Option Nat} {r0 : (Nat → Int32)} (hf : f_X14_copy__3 (I 514) (I 522) = some r0) : q_Ct g m_X14_copy d 0 0 [] [.ref 520, .ref 514, .ref 522] (q_hp (t, r, m, z, N, ext, rx, L) I E) (fun o h' => o = .inl none ∧ h' = q_hp (t, r, m, z, N, ext, rx, L) (q_ws I [(522, r0)]) (q_ws E [])) := by
  rw [f_X14_copy__3] at hf
  refine q_Ct_of ok_X14_copy (Nat.le_of_ble_eq_true rfl) ?_ _ rfl rfl
  change q_J g m_X14_copy d 0 0 _ [] _ 0 0 (q_kc (t, r, m, z, N, ext, rx, L) I E 0 [some (.ref 520), some (.ref 514), some (.ref 522)] [] [] [])
  refine q_blk 6 [] (c' := q_kc (t, r, m, z, N, ext, rx, L) I E 6 [some (.ref 520), some (.ref 514), some (.ref 522)] [.int (nI 136), .int (0 : Int32), .ref 522, .int (0 : Int32), .ref 514] [] []) ok_X14_copy rfl q_cn ?_
  refine q_kcp (c := 136) (pos' := 7) (lI' := [(522, (q_cp (I 514) (I 522) 136))]) ok_X14_copy rfl rfl (Nat.le_trans (Nat.le_of_ble_eq_true rfl) hd) (Nat.le_of_ble_eq_true rfl) rfl rfl rfl rfl rfl rfl rfl rfl rfl rfl ?_
  cases hf
  exact q_krv ok_X14_copy rfl rfl (Nat.le_of_ble_eq_true rfl) (Nat.le_of_ble_eq_true rfl) ⟨rfl, q_hpe (q_fin [522] rfl) (q_fin [] rfl)⟩
set_option maxHeartbeats 4000000 in
theorem ct_X14_copy_520_515_523 {g : q_G} {t : Nat} {r : Nat} {m : Nat} {z : Nat} {N : Nat} {ext : Nat → q_Sh} {rx : Nat → Nat → Option Nat} {L : Nat → Nat → Int64} {d : Nat} (hd : 2 ≤ d)  {I : Nat → Nat → Int32} {E : Nat → Nat → Option Nat} {r0 : (Nat → Int32)} (hf : f_X14_copy__4 (I 515) (I 523) = some r0) : q_Ct g m_X14_copy d 0 0 [] [.ref 520, .ref 515, .ref 523] (q_hp (t, r, m, z, N, ext, rx, L) I E) (fun o h' => o = .inl none ∧ h' = q_hp (t, r, m, z, N, ext, rx, L) (q_ws I [(523, r0)]) (q_ws E [])) := by
  rw [f_X14_copy__4] at hf
  refine q_Ct_of ok_X14_copy (Nat.le_of_ble_eq_true rfl) ?_ _ rfl rfl
  change q_J g m_X14_copy d 0 0 _ [] _ 0 0 (q_kc (t, r, m, z, N, ext, rx, L) I E 0 [some (.ref 520), some (.ref 515), some (.ref 523)] [] [] [])
  refine q_blk 6 [] (c' := q_kc (t, r, m, z, N, ext, rx, L) I E 6 [some (.ref 520), some (.ref 515), some (.ref 523)] [.int (nI 136), .int (0 : Int32), .ref 523, .int (0 : Int32), .ref 515] [] []) ok_X14_copy rfl q_cn ?_
  refine q_kcp (c := 136) (pos' := 7) (lI' := [(523, (q_cp (I 515) (I 523) 136))]) ok_X14_copy rfl rfl (Nat.le_trans (Nat.le_of_ble_eq_true rfl) hd) (Nat.le_of_ble_eq_true rfl) rfl rfl rfl rfl rfl rfl rfl rfl rfl rfl ?_
  cases hf
  exact q_krv ok_X14_copy rfl rfl (Nat.le_of_ble_eq_true rfl) (Nat.le_of_ble_eq_true rfl) ⟨rfl, q_hpe (q_fin [523] rfl) (q_fin [] rfl)⟩
set_option maxHeartbeats 4000000 in
theorem ct_X14_copy_520_516_524 {g : q_G} {t : Nat} {r : Nat} {m : Nat} {z : Nat} {N : Nat} {ext : Nat → q_Sh} {rx : Nat → Nat → Option Nat} {L : Nat → Nat → Int64} {d : Nat} (hd : 2 ≤ d)  {I : Nat → Nat → Int32} {E : Nat → Nat → Option Nat} {r0 : (Nat → Int32)} (hf : f_X14_copy__5 (I 516) (I 524) = some r0) : q_Ct g m_X14_copy d 0 0 [] [.ref 520, .ref 516, .ref 524] (q_hp (t, r, m, z, N, ext, rx, L) I E) (fun o h' => o = .inl none ∧ h' = q_hp (t, r, m, z, N, ext, rx, L) (q_ws I [(524, r0)]) (q_ws E [])) := by
  rw [f_X14_copy__5] at hf
  refine q_Ct_of ok_X14_copy (Nat.le_of_ble_eq_true rfl) ?_ _ rfl rfl
  change q_J g m_X14_copy d 0 0 _ [] _ 0 0 (q_kc (t, r, m, z, N, ext, rx, L) I E 0 [some (.ref 520), some (.ref 516), some (.ref 524)] [] [] [])
  refine q_blk 6 [] (c' := q_kc (t, r, m, z, N, ext, rx, L) I E 6 [some (.ref 520), some (.ref 516), some (.ref 524)] [.int (nI 136), .int (0 : Int32), .ref 524, .int (0 : Int32), .ref 516] [] []) ok_X14_copy rfl q_cn ?_
  refine q_kcp (c := 136) (pos' := 7) (lI' := [(524, (q_cp (I 516) (I 524) 136))]) ok_X14_copy rfl rfl (Nat.le_trans (Nat.le_of_ble_eq_true rfl) hd) (Nat.le_of_ble_eq_true rfl) rfl rfl rfl rfl rfl rfl rfl rfl rfl rfl ?_
  cases hf
  exact q_krv ok_X14_copy rfl rfl (Nat.le_of_ble_eq_true rfl) (Nat.le_of_ble_eq_true rfl) ⟨rfl, q_hpe (q_fin [524] rfl) (q_fin [] rfl)⟩
set_option maxHeartbeats 4000000 in
theorem ct_X14_copy_520_517_525 {g : q_G} {t : Nat} {r : Nat} {m : Nat} {z : Nat} {N : Nat} {ext : Nat → q_Sh} {rx : Nat → Nat → Option Nat} {L : Nat → Nat → Int64} {d : Nat} (hd : 2 ≤ d)  {I : Nat → Nat → Int32} {E : Nat → Nat → Option Nat} {r0 : (Nat → Int32)} (hf : f_X14_copy__6 (I 517) (I 525) = some r0) : q_Ct g m_X14_copy d 0 0 [] [.ref 520, .ref 517, .ref 525] (q_hp (t, r, m, z, N, ext, rx, L) I E) (fun o h' => o = .inl none ∧ h' = q_hp (t, r, m, z, N, ext, rx, L) (q_ws I [(525, r0)]) (q_ws E [])) := by
  rw [f_X14_copy__6] at hf
  refine q_Ct_of ok_X14_copy (Nat.le_of_ble_eq_true rfl) ?_ _ rfl rfl
  change q_J g m_X14_copy d 0 0 _ [] _ 0 0 (q_kc (t, r, m, z, N, ext, rx, L) I E 0 [some (.ref 520), some (.ref 517), some (.ref 525)] [] [] [])
  refine q_blk 6 [] (c' := q_kc (t, r, m, z, N, ext, rx, L) I E 6 [some (.ref 520), some (.ref 517), some (.ref 525)] [.int (nI 136), .int (0 : Int32), .ref 525, .int (0 : Int32), .ref 517] [] []) ok_X14_copy rfl q_cn ?_
  refine q_kcp (c := 136) (pos' := 7) (lI' := [(525, (q_cp (I 517) (I 525) 136))]) ok_X14_copy rfl rfl (Nat.le_trans (Nat.le_of_ble_eq_true rfl) hd) (Nat.le_of_ble_eq_true rfl) rfl rfl rfl rfl rfl rfl rfl rfl rfl rfl ?_
  cases hf
  exact q_krv ok_X14_copy rfl rfl (Nat.le_of_ble_eq_true rfl) (Nat.le_of_ble_eq_true rfl) ⟨rfl, q_hpe (q_fin [525] rfl) (q_fin [] rfl)⟩
set_option maxHeartbeats 4000000 in
theorem ct_X14_copy_520_518_526 {g : q_G} {t : Nat} {r : Nat} {m : Nat} {z : Nat} {N : Nat} {ext : Nat → q_Sh} {rx : Nat → Nat → Option Nat} {L : Nat → Nat → Int64} {d : Nat} (hd : 2 ≤ d)  {I : Nat → Nat → Int32} {E : Nat → Nat → Option Nat} {r0 : (Nat → Int32)} (hf : f_X14_copy__7 (I 518) (I 526) = some r0) : q_Ct g m_X14_copy d 0 0 [] [.ref 520, .ref 518, .ref 526] (q_hp (t, r, m, z, N, ext, rx, L) I E) (fun o h' => o = .inl none ∧ h' = q_hp (t, r, m, z, N, ext, rx, L) (q_ws I [(526, r0)]) (q_ws E [])) := by
  rw [f_X14_copy__7] at hf
  refine q_Ct_of ok_X14_copy (Nat.le_of_ble_eq_true rfl) ?_ _ rfl rfl
  change q_J g m_X14_copy d 0 0 _ [] _ 0 0 (q_kc (t, r, m, z, N, ext, rx, L) I E 0 [some (.ref 520), some (.ref 518), some (.ref 526)] [] [] [])
  refine q_blk 6 [] (c' := q_kc (t, r, m, z, N, ext, rx, L) I E 6 [some (.ref 520), some (.ref 518), some (.ref 526)] [.int (nI 136), .int (0 : Int32), .ref 526, .int (0 : Int32), .ref 518] [] []) ok_X14_copy rfl q_cn ?_
  refine q_kcp (c := 136) (pos' := 7) (lI' := [(526, (q_cp (I 518) (I 526) 136))]) ok_X14_copy rfl rfl (Nat.le_trans (Nat.le_of_ble_eq_true rfl) hd) (Nat.le_of_ble_eq_true rfl) rfl rfl rfl rfl rfl rfl rfl rfl rfl rfl ?_
  cases hf
  exact q_krv ok_X14_copy rfl rfl (Nat.le_of_ble_eq_true rfl) (Nat.le_of_ble_eq_true rfl) ⟨rfl, q_hpe (q_fin [526] rfl) (q_fin [] rfl)⟩
set_option maxHeartbeats 4000000 in
theorem ct_X14_copy_520_519_527 {g : q_G} {t : Nat} {r : Nat} {m : Nat} {z : Nat} {N : Nat} {ext : Nat → q_Sh} {rx : Nat → Nat → Option Nat} {L : Nat → Nat → Int64} {d : Nat} (hd : 2 ≤ d)  {I : Nat → Nat → Int32} {E : Nat → Nat → Option Nat} {r0 : (Nat → Int32)} (hf : f_X14_copy__8 (I 519) (I 527) = some r0) : q_Ct g m_X14_copy d 0 0 [] [.ref 520, .ref 519, .ref 527] (q_hp (t, r, m, z, N, ext, rx, L) I E) (fun o h' => o = .inl none ∧ h' = q_hp (t, r, m, z, N, ext, rx, L) (q_ws I [(527, r0)]) (q_ws E [])) := by
  rw [f_X14_copy__8] at hf
  refine q_Ct_of ok_X14_copy (Nat.le_of_ble_eq_true rfl) ?_ _ rfl rfl
  change q_J g m_X14_copy d 0 0 _ [] _ 0 0 (q_kc (t, r, m, z, N, ext, rx, L) I E 0 [some (.ref 520), some (.ref 519), some (.ref 527)] [] [] [])
  refine q_blk 6 [] (c' := q_kc (t, r, m, z, N, ext, rx, L) I E 6 [some (.ref 520), some (.ref 519), some (.ref 527)] [.int (nI 408), .int (0 : Int32), .ref 527, .int (0 : Int32), .ref 519] [] []) ok_X14_copy rfl q_cn ?_
  refine q_kcp (c := 408) (pos' := 7) (lI' := [(527, (q_cp (I 519) (I 527) 408))]) ok_X14_copy rfl rfl (Nat.le_trans (Nat.le_of_ble_eq_true rfl) hd) (Nat.le_of_ble_eq_true rfl) rfl rfl rfl rfl rfl rfl rfl rfl rfl rfl ?_
  cases hf
  exact q_krv ok_X14_copy rfl rfl (Nat.le_of_ble_eq_true rfl) (Nat.le_of_ble_eq_true rfl) ⟨rfl, q_hpe (q_fin [527] rfl) (q_fin [] rfl)⟩
set_option maxHeartbeats 4000000 in
theorem ct_X14_become_520_512 {g : q_G} {t : Nat} {r : Nat} {m : Nat} {z : Nat} {N : Nat} {ext : Nat → q_Sh} {rx : Nat → Nat → Option Nat} {L : Nat → Nat → Int64} {d : Nat} (hd : 3 ≤ d)  {I : Nat → Nat → Int32} {E : Nat → Nat → Option Nat} {r0 : (Nat → Int32) × (Nat → Int32) × (Nat → Int32) × (Nat → Int32) × (Nat → Int32) × (Nat → Int32) × (Nat → Int32) × (Nat → Int32)} (hf : f_X14_become (I 512) (I 513) (I 514) (I 515) (I 516) (I 517) (I 518) (I 519) (I 520) (I 521) (I 522) (I 523) (I 524) (I 525) (I 526) (I 527) = some r0) : q_Ct g m_X14_become d 0 0 [] [.ref 520, .ref 512] (q_hp (t, r, m, z, N, ext, rx, L) I E) (fun o h' => o = .inl (some (.ref 520)) ∧ h' = q_hp (t, r, m, z, N, ext, rx, L) (q_ws I [(520, r0.1), (521, r0.2.1), (522, r0.2.2.1), (523, r0.2.2.2.1), (524, r0.2.2.2.2.1), (525, r0.2.2.2.2.2.1), (526, r0.2.2.2.2.2.2.1), (527, r0.2.2.2.2.2.2.2)]) (q_ws E [])) := by
  rw [f_X14_become] at hf
  refine q_Ct_of ok_X14_become (Nat.le_of_ble_eq_true rfl) ?_ _ rfl rfl
  change q_J g m_X14_become d 0 0 _ [] _ 0 0 (q_kc (t, r, m, z, N, ext, rx, L) I E 0 [some (.ref 520), some (.ref 512)] [] [] [])
  refine q_blk 29 [] (c' := q_kc (t, r, m, z, N, ext, rx, L) I E 29 [some (.ref 520), some (.ref 512)] [.ref 521, .ref 513, .ref 520] [(520, (q_up (q_up (q_up (q_up (q_up (q_up (I 520) 0 ((I 512) 0)) 1 ((I 512) 1)) 2 ((I 512) 2)) 3 ((I 512) 3)) 4 ((I 512) 4)) 5 ((I 512) 5)))] []) ok_X14_become rfl q_cn ?_
  obtain ⟨r1, hr1, hf⟩ := q_bd hf
  refine q_kV (M2 := m_X14_copy) (As := [.ref 513, .ref 521]) (b := 520) (v2 := none) ok_X14_become ok_X14_copy cv_X14_copy (ct_X14_copy_520_513_521 (d := 2) (Nat.le_refl _) hr1) rfl rfl (Or.inl rfl) rfl rfl rfl rfl (Nat.le_trans (Nat.le_of_ble_eq_true rfl) hd) (Nat.le_of_ble_eq_true rfl) (Nat.le_of_ble_eq_true rfl) (Nat.le_of_ble_eq_true rfl) (fun x hx => absurd hx List.not_mem_nil) (q_nmL0 _) (q_nmS0 _) rfl (pos' := 30) (st' := []) (lI' := [(520, (q_up (q_up (q_up (q_up (q_up (q_up (I 520) 0 ((I 512) 0)) 1 ((I 512) 1)) 2 ((I 512) 2)) 3 ((I 512) 3)) 4 ((I 512) 4)) 5 ((I 512) 5))), (521, r1)]) (lE' := []) rfl rfl rfl rfl ?_
  refine q_blk 5 [] (c' := q_kc (t, r, m, z, N, ext, rx, L) I E 35 [some (.ref 520), some (.ref 512)] [.ref 522, .ref 514, .ref 520] [(520, (q_up (q_up (q_up (q_up (q_up (q_up (I 520) 0 ((I 512) 0)) 1 ((I 512) 1)) 2 ((I 512) 2)) 3 ((I 512) 3)) 4 ((I 512) 4)) 5 ((I 512) 5))), (521, r1)] []) ok_X14_become rfl q_cn ?_
  obtain ⟨r2, hr2, hf⟩ := q_bd hf
  refine q_kV (M2 := m_X14_copy) (As := [.ref 514, .ref 522]) (b := 520) (v2 := none) ok_X14_become ok_X14_copy cv_X14_copy (ct_X14_copy_520_514_522 (d := 2) (Nat.le_refl _) hr2) rfl rfl (Or.inl rfl) rfl rfl rfl rfl (Nat.le_trans (Nat.le_of_ble_eq_true rfl) hd) (Nat.le_of_ble_eq_true rfl) (Nat.le_of_ble_eq_true rfl) (Nat.le_of_ble_eq_true rfl) (fun x hx => absurd hx List.not_mem_nil) (q_nmL0 _) (q_nmS0 _) rfl (pos' := 36) (st' := []) (lI' := [(520, (q_up (q_up (q_up (q_up (q_up (q_up (I 520) 0 ((I 512) 0)) 1 ((I 512) 1)) 2 ((I 512) 2)) 3 ((I 512) 3)) 4 ((I 512) 4)) 5 ((I 512) 5))), (521, r1), (522, r2)]) (lE' := []) rfl rfl rfl rfl ?_
  refine q_blk 5 [] (c' := q_kc (t, r, m, z, N, ext, rx, L) I E 41 [some (.ref 520), some (.ref 512)] [.ref 523, .ref 515, .ref 520] [(520, (q_up (q_up (q_up (q_up (q_up (q_up (I 520) 0 ((I 512) 0)) 1 ((I 512) 1)) 2 ((I 512) 2)) 3 ((I 512) 3)) 4 ((I 512) 4)) 5 ((I 512) 5))), (521, r1), (522, r2)] []) ok_X14_become rfl q_cn ?_
  obtain ⟨r3, hr3, hf⟩ := q_bd hf
  refine q_kV (M2 := m_X14_copy) (As := [.ref 515, .ref 523]) (b := 520) (v2 := none) ok_X14_become ok_X14_copy cv_X14_copy (ct_X14_copy_520_515_523 (d := 2) (Nat.le_refl _) hr3) rfl rfl (Or.inl rfl) rfl rfl rfl rfl (Nat.le_trans (Nat.le_of_ble_eq_true rfl) hd) (Nat.le_of_ble_eq_true rfl) (Nat.le_of_ble_eq_true rfl) (Nat.le_of_ble_eq_true rfl) (fun x hx => absurd hx List.not_mem_nil) (q_nmL0 _) (q_nmS0 _) rfl (pos' := 42) (st' := []) (lI' := [(520, (q_up (q_up (q_up (q_up (q_up (q_up (I 520) 0 ((I 512) 0)) 1 ((I 512) 1)) 2 ((I 512) 2)) 3 ((I 512) 3)) 4 ((I 512) 4)) 5 ((I 512) 5))), (521, r1), (522, r2), (523, r3)]) (lE' := []) rfl rfl rfl rfl ?_
  refine q_blk 5 [] (c' := q_kc (t, r, m, z, N, ext, rx, L) I E 47 [some (.ref 520), some (.ref 512)] [.ref 524, .ref 516, .ref 520] [(520, (q_up (q_up (q_up (q_up (q_up (q_up (I 520) 0 ((I 512) 0)) 1 ((I 512) 1)) 2 ((I 512) 2)) 3 ((I 512) 3)) 4 ((I 512) 4)) 5 ((I 512) 5))), (521, r1), (522, r2), (523, r3)] []) ok_X14_become rfl q_cn ?_
  obtain ⟨r4, hr4, hf⟩ := q_bd hf
  refine q_kV (M2 := m_X14_copy) (As := [.ref 516, .ref 524]) (b := 520) (v2 := none) ok_X14_become ok_X14_copy cv_X14_copy (ct_X14_copy_520_516_524 (d := 2) (Nat.le_refl _) hr4) rfl rfl (Or.inl rfl) rfl rfl rfl rfl (Nat.le_trans (Nat.le_of_ble_eq_true rfl) hd) (Nat.le_of_ble_eq_true rfl) (Nat.le_of_ble_eq_true rfl) (Nat.le_of_ble_eq_true rfl) (fun x hx => absurd hx List.not_mem_nil) (q_nmL0 _) (q_nmS0 _) rfl (pos' := 48) (st' := []) (lI' := [(520, (q_up (q_up (q_up (q_up (q_up (q_up (I 520) 0 ((I 512) 0)) 1 ((I 512) 1)) 2 ((I 512) 2)) 3 ((I 512) 3)) 4 ((I 512) 4)) 5 ((I 512) 5))), (521, r1), (522, r2), (523, r3), (524, r4)]) (lE' := []) rfl rfl rfl rfl ?_
  refine q_blk 5 [] (c' := q_kc (t, r, m, z, N, ext, rx, L) I E 53 [some (.ref 520), some (.ref 512)] [.ref 525, .ref 517, .ref 520] [(520, (q_up (q_up (q_up (q_up (q_up (q_up (I 520) 0 ((I 512) 0)) 1 ((I 512) 1)) 2 ((I 512) 2)) 3 ((I 512) 3)) 4 ((I 512) 4)) 5 ((I 512) 5))), (521, r1), (522, r2), (523, r3), (524, r4)] []) ok_X14_become rfl q_cn ?_
  obtain ⟨r5, hr5, hf⟩ := q_bd hf
  refine q_kV (M2 := m_X14_copy) (As := [.ref 517, .ref 525]) (b := 520) (v2 := none) ok_X14_become ok_X14_copy cv_X14_copy (ct_X14_copy_520_517_525 (d := 2) (Nat.le_refl _) hr5) rfl rfl (Or.inl rfl) rfl rfl rfl rfl (Nat.le_trans (Nat.le_of_ble_eq_true rfl) hd) (Nat.le_of_ble_eq_true rfl) (Nat.le_of_ble_eq_true rfl) (Nat.le_of_ble_eq_true rfl) (fun x hx => absurd hx List.not_mem_nil) (q_nmL0 _) (q_nmS0 _) rfl (pos' := 54) (st' := []) (lI' := [(520, (q_up (q_up (q_up (q_up (q_up (q_up (I 520) 0 ((I 512) 0)) 1 ((I 512) 1)) 2 ((I 512) 2)) 3 ((I 512) 3)) 4 ((I 512) 4)) 5 ((I 512) 5))), (521, r1), (522, r2), (523, r3), (524, r4), (525, r5)]) (lE' := []) rfl rfl rfl rfl ?_
  refine q_blk 5 [] (c' := q_kc (t, r, m, z, N, ext, rx, L) I E 59 [some (.ref 520), some (.ref 512)] [.ref 526, .ref 518, .ref 520] [(520, (q_up (q_up (q_up (q_up (q_up (q_up (I 520) 0 ((I 512) 0)) 1 ((I 512) 1)) 2 ((I 512) 2)) 3 ((I 512) 3)) 4 ((I 512) 4)) 5 ((I 512) 5))), (521, r1), (522, r2), (523, r3), (524, r4), (525, r5)] []) ok_X14_become rfl q_cn ?_
  obtain ⟨r6, hr6, hf⟩ := q_bd hf
  refine q_kV (M2 := m_X14_copy) (As := [.ref 518, .ref 526]) (b := 520) (v2 := none) ok_X14_become ok_X14_copy cv_X14_copy (ct_X14_copy_520_518_526 (d := 2) (Nat.le_refl _) hr6) rfl rfl (Or.inl rfl) rfl rfl rfl rfl (Nat.le_trans (Nat.le_of_ble_eq_true rfl) hd) (Nat.le_of_ble_eq_true rfl) (Nat.le_of_ble_eq_true rfl) (Nat.le_of_ble_eq_true rfl) (fun x hx => absurd hx List.not_mem_nil) (q_nmL0 _) (q_nmS0 _) rfl (pos' := 60) (st' := []) (lI' := [(520, (q_up (q_up (q_up (q_up (q_up (q_up (I 520) 0 ((I 512) 0)) 1 ((I 512) 1)) 2 ((I 512) 2)) 3 ((I 512) 3)) 4 ((I 512) 4)) 5 ((I 512) 5))), (521, r1), (522, r2), (523, r3), (524, r4), (525, r5), (526, r6)]) (lE' := []) rfl rfl rfl rfl ?_
  refine q_blk 5 [] (c' := q_kc (t, r, m, z, N, ext, rx, L) I E 65 [some (.ref 520), some (.ref 512)] [.ref 527, .ref 519, .ref 520] [(520, (q_up (q_up (q_up (q_up (q_up (q_up (I 520) 0 ((I 512) 0)) 1 ((I 512) 1)) 2 ((I 512) 2)) 3 ((I 512) 3)) 4 ((I 512) 4)) 5 ((I 512) 5))), (521, r1), (522, r2), (523, r3), (524, r4), (525, r5), (526, r6)] []) ok_X14_become rfl q_cn ?_
  obtain ⟨r7, hr7, hf⟩ := q_bd hf
  refine q_kV (M2 := m_X14_copy) (As := [.ref 519, .ref 527]) (b := 520) (v2 := none) ok_X14_become ok_X14_copy cv_X14_copy (ct_X14_copy_520_519_527 (d := 2) (Nat.le_refl _) hr7) rfl rfl (Or.inl rfl) rfl rfl rfl rfl (Nat.le_trans (Nat.le_of_ble_eq_true rfl) hd) (Nat.le_of_ble_eq_true rfl) (Nat.le_of_ble_eq_true rfl) (Nat.le_of_ble_eq_true rfl) (fun x hx => absurd hx List.not_mem_nil) (q_nmL0 _) (q_nmS0 _) rfl (pos' := 66) (st' := []) (lI' := [(520, (q_up (q_up (q_up (q_up (q_up (q_up (I 520) 0 ((I 512) 0)) 1 ((I 512) 1)) 2 ((I 512) 2)) 3 ((I 512) 3)) 4 ((I 512) 4)) 5 ((I 512) 5))), (521, r1), (522, r2), (523, r3), (524, r4), (525, r5), (526, r6), (527, r7)]) (lE' := []) rfl rfl rfl rfl ?_
  refine q_blk 1 [] (c' := q_kc (t, r, m, z, N, ext, rx, L) I E 67 [some (.ref 520), some (.ref 512)] [.ref 520] [(520, (q_up (q_up (q_up (q_up (q_up (q_up (I 520) 0 ((I 512) 0)) 1 ((I 512) 1)) 2 ((I 512) 2)) 3 ((I 512) 3)) 4 ((I 512) 4)) 5 ((I 512) 5))), (521, r1), (522, r2), (523, r3), (524, r4), (525, r5), (526, r6), (527, r7)] []) ok_X14_become rfl q_cn ?_
  cases hf
  exact q_kra ok_X14_become rfl rfl (Nat.le_of_ble_eq_true rfl) (Nat.le_of_ble_eq_true rfl) ⟨rfl, q_hpe (q_fin [520, 521, 522, 523, 524, 525, 526, 527] rfl) (q_fin [] rfl)⟩
set_option maxHeartbeats 4000000 in
theorem lp_X14_used_L4_520 {g : q_G} {d mc ms : Nat} {h0 : q_H} {Q : (Option Value ⊕ String) → q_H → Prop} {k n : Nat} {t : Nat} {r : Nat} {m : Nat} {z : Nat} {N : Nat} {ext : Nat → q_Sh} {rx : Nat → Nat → Option Nat} {L : Nat → Nat → Int64} (hd : 1 ≤ d) (hk : k ≤ mc) (hn : n ≤ ms)  {v1 : Int32} : ∀ (fu : Nat) {I : Nat → Nat → Int32} {E : Nat → Nat → Option Nat} {v2 : Int32} {v3 : Int32} {r0 : Int32} (hf : f_X14_used_L4 (I 522) (I 524) v1 fu v2 v3 = some r0) (hK0 : q_J g m_X14_used d mc ms h0 [] Q k n (q_kc (t, r, m, z, N, ext, rx, L) I E 24 [none, none, some (.int r0), none] [] [] [])), q_J g m_X14_used d mc ms h0 [] Q k n (4, [some (.ref 520), some (.int v1), some (.int v2), some (.int v3)], [], q_hp (t, r, m, z, N, ext, rx, L) I E) := by
  intro fu
  induction fu with
  | zero =>
    intro I E v2 v3 r0 hf hK0
    rw [f_X14_used_L4] at hf
    cases hf
  | succ fu ih =>
    intro I E v2 v3 r0 hf hK0
    rw [f_X14_used_L4] at hf
    change q_J g m_X14_used d mc ms h0 [] Q k n (q_kc (t, r, m, z, N, ext, rx, L) I E 4 [some (.ref 520), some (.int v1), some (.int v2), some (.int v3)] [] [] [])
    refine q_blf 2 [] (a := q_kc (t, r, m, z, N, ext, rx, L) I E 24 [some (.ref 520), some (.int v1), some (.int v2), some (.int v3)] [] [] []) (b := q_kc (t, r, m, z, N, ext, rx, L) I E 7 [some (.ref 520), some (.int v1), some (.int v2), some (.int v3)] [] [] []) (P := (136 : Int32) ≤ v3) ok_X14_used rfl q_cn (fun h1 => ?_) (fun h1 => ?_)
    · have hf := q_ip h1 hf
      refine q_less (ls' := [none, none, some (.int v2), none]) (q_sb1 (q_sb1 (q_sb2 (q_sb1 q_sb0)))) ?_
      cases hf
      exact q_Jpad [] [] rfl rfl hK0
    · have hf := q_in h1 hf
      obtain ⟨j2, hj2, hf⟩ := q_bd hf
      refine q_blf 6 [j2] (a := q_kc (t, r, m, z, N, ext, rx, L) I E 19 [some (.ref 520), some (.int v1), some (.int v2), some (.int v3)] [.int v2] [] []) (b := q_kc (t, r, m, z, N, ext, rx, L) I E 14 [some (.ref 520), some (.int v1), some (.int v2), some (.int v3)] [.int v2] [] []) (P := ¬ ((I 522) j2) = v1) ok_X14_used rfl (q_cc hj2 q_cn) (fun h3 => ?_) (fun h3 => ?_)
      · have hf := q_ip h3 hf
        refine q_blk 5 [] (c' := q_kc (t, r, m, z, N, ext, rx, L) I E 4 [some (.ref 520), some (.int v1), some (.int (v2 + (0 : Int32))), some (.int (v3 + 1))] [] [] []) ok_X14_used rfl q_cn ?_
        exact ih (I := q_ws I []) (E := q_ws E []) hf (q_Jmrg rfl rfl hK0)
      · have hf := q_in h3 hf
        obtain ⟨j4, hj4, hf⟩ := q_bd hf
        refine q_blk 9 [j4] (c' := q_kc (t, r, m, z, N, ext, rx, L) I E 4 [some (.ref 520), some (.int v1), some (.int (v2 + ((I 524) j4))), some (.int (v3 + 1))] [] [] []) ok_X14_used rfl (q_cc hj4 q_cn) ?_
        exact ih (I := q_ws I []) (E := q_ws E []) hf (q_Jmrg rfl rfl hK0)
set_option maxHeartbeats 4000000 in
theorem ct_X14_used_520 {g : q_G} {t : Nat} {r : Nat} {m : Nat} {z : Nat} {N : Nat} {ext : Nat → q_Sh} {rx : Nat → Nat → Option Nat} {L : Nat → Nat → Int64} {d : Nat} (hd : 1 ≤ d)  {I : Nat → Nat → Int32} {E : Nat → Nat → Option Nat} {x1 : Int32} {r0 : Int32} (hf : f_X14_used (I 522) (I 524) x1 = some r0) : q_Ct g m_X14_used d 0 0 [] [.ref 520, .int x1] (q_hp (t, r, m, z, N, ext, rx, L) I E) (fun o h' => o = .inl (some (.int r0)) ∧ h' = q_hp (t, r, m, z, N, ext, rx, L) (q_ws I []) (q_ws E [])) := by
  rw [f_X14_used] at hf
  refine q_Ct_of ok_X14_used (Nat.le_of_ble_eq_true rfl) ?_ _ rfl rfl
  change q_J g m_X14_used d 0 0 _ [] _ 0 0 (q_kc (t, r, m, z, N, ext, rx, L) I E 0 [some (.ref 520), some (.int x1), none, none] [] [] [])
  refine q_blk 4 [] (c' := q_kc (t, r, m, z, N, ext, rx, L) I E 4 [some (.ref 520), some (.int x1), some (.int (0 : Int32)), some (.int (0 : Int32))] [] [] []) ok_X14_used rfl q_cn ?_
  obtain ⟨r5, hr5, hf⟩ := q_bd hf
  refine lp_X14_used_L4_520 (I := q_ws I []) (E := q_ws E []) hd (Nat.le_of_ble_eq_true rfl) (Nat.le_of_ble_eq_true rfl) 4096 hr5 ?_
  refine q_Jmrg (lI' := []) (lE' := []) rfl rfl ?_
  refine q_blk 1 [] (c' := q_kc (t, r, m, z, N, ext, rx, L) I E 25 [none, none, some (.int r5), none] [.int r5] [] []) ok_X14_used rfl q_cn ?_
  cases hf
  exact q_kri ok_X14_used rfl rfl rfl (Nat.le_of_ble_eq_true rfl) (Nat.le_of_ble_eq_true rfl) ⟨rfl, q_hpe (q_fin [] rfl) (q_fin [] rfl)⟩
set_option maxHeartbeats 4000000 in
theorem lp_X14_bales_L4_520 {g : q_G} {d mc ms : Nat} {h0 : q_H} {Q : (Option Value ⊕ String) → q_H → Prop} {k n : Nat} {t : Nat} {r : Nat} {m : Nat} {z : Nat} {N : Nat} {ext : Nat → q_Sh} {rx : Nat → Nat → Option Nat} {L : Nat → Nat → Int64} (hd : 1 ≤ d) (hk : k ≤ mc) (hn : n ≤ ms)  {v1 : Int32} : ∀ (fu : Nat) {I : Nat → Nat → Int32} {E : Nat → Nat → Option Nat} {v2 : Int32} {v3 : Int32} {r0 : Int32} (hf : f_X14_bales_L4 (I 522) v1 fu v2 v3 = some r0) (hK0 : q_J g m_X14_bales d mc ms h0 [] Q k n (q_kc (t, r, m, z, N, ext, rx, L) I E 21 [none, none, some (.int r0), none] [] [] [])), q_J g m_X14_bales d mc ms h0 [] Q k n (4, [some (.ref 520), some (.int v1), some (.int v2), some (.int v3)], [], q_hp (t, r, m, z, N, ext, rx, L) I E) := by
  intro fu
  induction fu with
  | zero =>
    intro I E v2 v3 r0 hf hK0
    rw [f_X14_bales_L4] at hf
    cases hf
  | succ fu ih =>
    intro I E v2 v3 r0 hf hK0
    rw [f_X14_bales_L4] at hf
    change q_J g m_X14_bales d mc ms h0 [] Q k n (q_kc (t, r, m, z, N, ext, rx, L) I E 4 [some (.ref 520), some (.int v1), some (.int v2), some (.int v3)] [] [] [])
    refine q_blf 2 [] (a := q_kc (t, r, m, z, N, ext, rx, L) I E 21 [some (.ref 520), some (.int v1), some (.int v2), some (.int v3)] [] [] []) (b := q_kc (t, r, m, z, N, ext, rx, L) I E 7 [some (.ref 520), some (.int v1), some (.int v2), some (.int v3)] [] [] []) (P := (136 : Int32) ≤ v3) ok_X14_bales rfl q_cn (fun h1 => ?_) (fun h1 => ?_)
    · have hf := q_ip h1 hf
      refine q_less (ls' := [none, none, some (.int v2), none]) (q_sb1 (q_sb1 (q_sb2 (q_sb1 q_sb0)))) ?_
      cases hf
      exact q_Jpad [] [] rfl rfl hK0
    · have hf := q_in h1 hf
      obtain ⟨j2, hj2, hf⟩ := q_bd hf
      refine q_blf 6 [j2] (a := q_kc (t, r, m, z, N, ext, rx, L) I E 16 [some (.ref 520), some (.int v1), some (.int v2), some (.int v3)] [.int v2] [] []) (b := q_kc (t, r, m, z, N, ext, rx, L) I E 14 [some (.ref 520), some (.int v1), some (.int v2), some (.int v3)] [.int v2] [] []) (P := ¬ ((I 522) j2) = v1) ok_X14_bales rfl (q_cc hj2 q_cn) (fun h3 => ?_) (fun h3 => ?_)
      · have hf := q_ip h3 hf
        refine q_blk 5 [] (c' := q_kc (t, r, m, z, N, ext, rx, L) I E 4 [some (.ref 520), some (.int v1), some (.int (v2 + (0 : Int32))), some (.int (v3 + 1))] [] [] []) ok_X14_bales rfl q_cn ?_
        exact ih (I := q_ws I []) (E := q_ws E []) hf (q_Jmrg rfl rfl hK0)
      · have hf := q_in h3 hf
        refine q_blk 6 [] (c' := q_kc (t, r, m, z, N, ext, rx, L) I E 4 [some (.ref 520), some (.int v1), some (.int (v2 + (1 : Int32))), some (.int (v3 + 1))] [] [] []) ok_X14_bales rfl q_cn ?_
        exact ih (I := q_ws I []) (E := q_ws E []) hf (q_Jmrg rfl rfl hK0)
set_option maxHeartbeats 4000000 in
theorem ct_X14_bales_520 {g : q_G} {t : Nat} {r : Nat} {m : Nat} {z : Nat} {N : Nat} {ext : Nat → q_Sh} {rx : Nat → Nat → Option Nat} {L : Nat → Nat → Int64} {d : Nat} (hd : 1 ≤ d)  {I : Nat → Nat → Int32} {E : Nat → Nat → Option Nat} {x1 : Int32} {r0 : Int32} (hf : f_X14_bales (I 522) x1 = some r0) : q_Ct g m_X14_bales d 0 0 [] [.ref 520, .int x1] (q_hp (t, r, m, z, N, ext, rx, L) I E) (fun o h' => o = .inl (some (.int r0)) ∧ h' = q_hp (t, r, m, z, N, ext, rx, L) (q_ws I []) (q_ws E [])) := by
  rw [f_X14_bales] at hf
  refine q_Ct_of ok_X14_bales (Nat.le_of_ble_eq_true rfl) ?_ _ rfl rfl
  change q_J g m_X14_bales d 0 0 _ [] _ 0 0 (q_kc (t, r, m, z, N, ext, rx, L) I E 0 [some (.ref 520), some (.int x1), none, none] [] [] [])
  refine q_blk 4 [] (c' := q_kc (t, r, m, z, N, ext, rx, L) I E 4 [some (.ref 520), some (.int x1), some (.int (0 : Int32)), some (.int (0 : Int32))] [] [] []) ok_X14_bales rfl q_cn ?_
  obtain ⟨r4, hr4, hf⟩ := q_bd hf
  refine lp_X14_bales_L4_520 (I := q_ws I []) (E := q_ws E []) hd (Nat.le_of_ble_eq_true rfl) (Nat.le_of_ble_eq_true rfl) 4096 hr4 ?_
  refine q_Jmrg (lI' := []) (lE' := []) rfl rfl ?_
  refine q_blk 1 [] (c' := q_kc (t, r, m, z, N, ext, rx, L) I E 22 [none, none, some (.int r4), none] [.int r4] [] []) ok_X14_bales rfl q_cn ?_
  cases hf
  exact q_kri ok_X14_bales rfl rfl rfl (Nat.le_of_ble_eq_true rfl) (Nat.le_of_ble_eq_true rfl) ⟨rfl, q_hpe (q_fin [] rfl) (q_fin [] rfl)⟩
set_option maxHeartbeats 4000000 in
theorem ct_X14_bales__520 {g : q_G} {t : Nat} {r : Nat} {m : Nat} {z : Nat} {N : Nat} {ext : Nat → q_Sh} {rx : Nat → Nat → Option Nat} {L : Nat → Nat → Int64} {d : Nat} (hd : 2 ≤ d)  {I : Nat → Nat → Int32} {E : Nat → Nat → Option Nat} {r0 : Int32} (hf : f_X14_bales_ (I 522) = some r0) : q_Ct g m_X14_bales_ d 0 0 [] [.ref 520] (q_hp (t, r, m, z, N, ext, rx, L) I E) (fun o h' => o = .inl (some (.int r0)) ∧ h' = q_hp (t, r, m, z, N, ext, rx, L) (q_ws I []) (q_ws E [])) := by
  rw [f_X14_bales_] at hf
  refine q_Ct_of ok_X14_bales_ (Nat.le_of_ble_eq_true rfl) ?_ _ rfl rfl
  change q_J g m_X14_bales_ d 0 0 _ [] _ 0 0 (q_kc (t, r, m, z, N, ext, rx, L) I E 0 [some (.ref 520)] [] [] [])
  refine q_blk 2 [] (c' := q_kc (t, r, m, z, N, ext, rx, L) I E 2 [some (.ref 520)] [.int (1 : Int32), .ref 520] [] []) ok_X14_bales_ rfl q_cn ?_
  obtain ⟨r1, hr1, hf⟩ := q_bd hf
  refine q_kV (M2 := m_X14_bales) (As := [.int (1 : Int32)]) (b := 520) (v2 := some (.int r1)) ok_X14_bales_ ok_X14_bales cv_X14_bales (ct_X14_bales_520 (d := 1) (Nat.le_refl _) hr1) rfl rfl (Or.inl rfl) rfl rfl rfl rfl (Nat.le_trans (Nat.le_of_ble_eq_true rfl) hd) (Nat.le_of_ble_eq_true rfl) (Nat.le_of_ble_eq_true rfl) (Nat.le_of_ble_eq_true rfl) (fun x hx => absurd hx List.not_mem_nil) (q_nmL0 _) (q_nmS0 _) rfl (pos' := 3) (st' := [.int r1]) (lI' := []) (lE' := []) rfl rfl rfl rfl ?_
  refine q_blk 2 [] (c' := q_kc (t, r, m, z, N, ext, rx, L) I E 5 [some (.ref 520)] [.int (2 : Int32), .ref 520, .int r1] [] []) ok_X14_bales_ rfl q_cn ?_
  obtain ⟨r2, hr2, hf⟩ := q_bd hf
  refine q_kV (M2 := m_X14_bales) (As := [.int (2 : Int32)]) (b := 520) (v2 := some (.int r2)) ok_X14_bales_ ok_X14_bales cv_X14_bales (ct_X14_bales_520 (d := 1) (Nat.le_refl _) hr2) rfl rfl (Or.inl rfl) rfl rfl rfl rfl (Nat.le_trans (Nat.le_of_ble_eq_true rfl) hd) (Nat.le_of_ble_eq_true rfl) (Nat.le_of_ble_eq_true rfl) (Nat.le_of_ble_eq_true rfl) (fun x hx => absurd hx List.not_mem_nil) (q_nmL0 _) (q_nmS0 _) rfl (pos' := 6) (st' := [.int r2, .int r1]) (lI' := []) (lE' := []) rfl rfl rfl rfl ?_
  refine q_blk 1 [] (c' := q_kc (t, r, m, z, N, ext, rx, L) I E 7 [some (.ref 520)] [.int (r1 + r2)] [] []) ok_X14_bales_ rfl q_cn ?_
  cases hf
  exact q_kri ok_X14_bales_ rfl rfl rfl (Nat.le_of_ble_eq_true rfl) (Nat.le_of_ble_eq_true rfl) ⟨rfl, q_hpe (q_fin [] rfl) (q_fin [] rfl)⟩
set_option maxHeartbeats 4000000 in
theorem ct_X14_pushed_520 {g : q_G} {t : Nat} {r : Nat} {m : Nat} {z : Nat} {N : Nat} {ext : Nat → q_Sh} {rx : Nat → Nat → Option Nat} {L : Nat → Nat → Int64} {d : Nat} (hd : 3 ≤ d)  {I : Nat → Nat → Int32} {E : Nat → Nat → Option Nat} {x1 : Int32} {x2 : Int32} {r0 : Int32} (hf : f_X14_pushed (I 499) (I 507) (I 520) (I 521) (I 522) (I 524) (I 526) x1 x2 = some r0) : q_Ct g m_X14_pushed d 0 0 [] [.ref 520, .int x1, .int x2] (q_hp (t, r, m, z, N, ext, rx, L) I E) (fun o h' => o = .inl (some (.int r0)) ∧ h' = q_hp (t, r, m, z, N, ext, rx, L) (q_ws I []) (q_ws E [])) := by
  rw [f_X14_pushed] at hf
  refine q_Ct_of ok_X14_pushed (Nat.le_of_ble_eq_true rfl) ?_ _ rfl rfl
  change q_J g m_X14_pushed d 0 0 _ [] _ 0 0 (q_kc (t, r, m, z, N, ext, rx, L) I E 0 [some (.ref 520), some (.int x1), some (.int x2), none] [] [] [])
  obtain ⟨j1, hj1, hf⟩ := q_bd hf
  refine q_blk 8 [j1] (c' := q_kc (t, r, m, z, N, ext, rx, L) I E 8 [some (.ref 520), some (.int x1), some (.int x2), some (.int ((I 507) j1))] [.int x1] [] []) ok_X14_pushed rfl (q_cc hj1 q_cn) ?_
  refine q_ksw [31, 99, 99, 99, 99, 99, 99, 99, 99, 99, 99, 9, 12, 16, 25, 28, 47, 63, 73] ok_X14_pushed rfl (dp := 99) rfl (fun ix t9 ht9 hx9 => ?_) (fun hx9 => ?_) (by decide) (by decide)
  · match ix, ht9 with
    | 0, ht9 =>
      have hx9 : x1 = 5 := hx9
      cases ht9
      have hf := q_ip hx9 hf
      obtain ⟨j2, hj2, hf⟩ := q_bd hf
      refine q_blf 5 [j2] (a := q_kc (t, r, m, z, N, ext, rx, L) I E 39 [some (.ref 520), some (.int x1), some (.int x2), some (.int ((I 507) j1))] [] [] []) (b := q_kc (t, r, m, z, N, ext, rx, L) I E 37 [some (.ref 520), some (.int x1), some (.int x2), some (.int ((I 507) j1))] [] [] []) (P := ¬ ((I 521) j2) = (-1 : Int32)) ok_X14_pushed rfl (q_cc hj2 q_cn) (fun h3 => ?_) (fun h3 => ?_)
      · have hf := q_ip h3 hf
        obtain ⟨j4, hj4, hf⟩ := q_bd hf
        obtain ⟨j5, hj5, hf⟩ := q_bd hf
        refine q_blk 7 [j4, j5] (c' := q_kc (t, r, m, z, N, ext, rx, L) I E 46 [some (.ref 520), some (.int x1), some (.int x2), some (.int ((I 507) j1))] [.int ((I 524) j5)] [] []) ok_X14_pushed rfl (q_cc hj5 (q_cc hj4 q_cn)) ?_
        cases hf
        exact q_kri ok_X14_pushed rfl rfl rfl (Nat.le_of_ble_eq_true rfl) (Nat.le_of_ble_eq_true rfl) ⟨rfl, q_hpe (q_fin [] rfl) (q_fin [] rfl)⟩
      · have hf := q_in h3 hf
        refine q_blk 2 [] (c' := q_kc (t, r, m, z, N, ext, rx, L) I E 46 [some (.ref 520), some (.int x1), some (.int x2), some (.int ((I 507) j1))] [.int (0 : Int32)] [] []) ok_X14_pushed rfl q_cn ?_
        cases hf
        exact q_kri ok_X14_pushed rfl rfl rfl (Nat.le_of_ble_eq_true rfl) (Nat.le_of_ble_eq_true rfl) ⟨rfl, q_hpe (q_fin [] rfl) (q_fin [] rfl)⟩
    | 1, ht9 =>
      have hx9 : x1 = 6 := hx9
      cases ht9
      have hf := q_in (fun hz9 => absurd (hx9.symm.trans hz9) (by decide)) hf
      have hf := q_ip hx9 hf
      refine q_blk 1 [] (c' := q_kc (t, r, m, z, N, ext, rx, L) I E 100 [some (.ref 520), some (.int x1), some (.int x2), some (.int ((I 507) j1))] [.int ((I 507) j1)] [] []) ok_X14_pushed rfl q_cn ?_
      cases hf
      exact q_kri ok_X14_pushed rfl rfl rfl (Nat.le_of_ble_eq_true rfl) (Nat.le_of_ble_eq_true rfl) ⟨rfl, q_hpe (q_fin [] rfl) (q_fin [] rfl)⟩
    | 2, ht9 =>
      have hx9 : x1 = 7 := hx9
      cases ht9
      have hf := q_in (fun hz9 => absurd (hx9.symm.trans hz9) (by decide)) hf
      have hf := q_in (fun hz9 => absurd (hx9.symm.trans hz9) (by decide)) hf
      have hf := q_ip hx9 hf
      refine q_blk 1 [] (c' := q_kc (t, r, m, z, N, ext, rx, L) I E 100 [some (.ref 520), some (.int x1), some (.int x2), some (.int ((I 507) j1))] [.int ((I 507) j1)] [] []) ok_X14_pushed rfl q_cn ?_
      cases hf
      exact q_kri ok_X14_pushed rfl rfl rfl (Nat.le_of_ble_eq_true rfl) (Nat.le_of_ble_eq_true rfl) ⟨rfl, q_hpe (q_fin [] rfl) (q_fin [] rfl)⟩
    | 3, ht9 =>
      have hx9 : x1 = 8 := hx9
      cases ht9
      have hf := q_in (fun hz9 => absurd (hx9.symm.trans hz9) (by decide)) hf
      have hf := q_in (fun hz9 => absurd (hx9.symm.trans hz9) (by decide)) hf
      have hf := q_in (fun hz9 => absurd (hx9.symm.trans hz9) (by decide)) hf
      have hf := q_ip hx9 hf
      refine q_blk 1 [] (c' := q_kc (t, r, m, z, N, ext, rx, L) I E 100 [some (.ref 520), some (.int x1), some (.int x2), some (.int ((I 507) j1))] [.int ((I 507) j1)] [] []) ok_X14_pushed rfl q_cn ?_
      cases hf
      exact q_kri ok_X14_pushed rfl rfl rfl (Nat.le_of_ble_eq_true rfl) (Nat.le_of_ble_eq_true rfl) ⟨rfl, q_hpe (q_fin [] rfl) (q_fin [] rfl)⟩
    | 4, ht9 =>
      have hx9 : x1 = 9 := hx9
      cases ht9
      have hf := q_in (fun hz9 => absurd (hx9.symm.trans hz9) (by decide)) hf
      have hf := q_in (fun hz9 => absurd (hx9.symm.trans hz9) (by decide)) hf
      have hf := q_in (fun hz9 => absurd (hx9.symm.trans hz9) (by decide)) hf
      have hf := q_in (fun hz9 => absurd (hx9.symm.trans hz9) (by decide)) hf
      have hf := q_ip hx9 hf
      refine q_blk 1 [] (c' := q_kc (t, r, m, z, N, ext, rx, L) I E 100 [some (.ref 520), some (.int x1), some (.int x2), some (.int ((I 507) j1))] [.int ((I 507) j1)] [] []) ok_X14_pushed rfl q_cn ?_
      cases hf
      exact q_kri ok_X14_pushed rfl rfl rfl (Nat.le_of_ble_eq_true rfl) (Nat.le_of_ble_eq_true rfl) ⟨rfl, q_hpe (q_fin [] rfl) (q_fin [] rfl)⟩
    | 5, ht9 =>
      have hx9 : x1 = 10 := hx9
      cases ht9
      have hf := q_in (fun hz9 => absurd (hx9.symm.trans hz9) (by decide)) hf
      have hf := q_in (fun hz9 => absurd (hx9.symm.trans hz9) (by decide)) hf
      have hf := q_in (fun hz9 => absurd (hx9.symm.trans hz9) (by decide)) hf
      have hf := q_in (fun hz9 => absurd (hx9.symm.trans hz9) (by decide)) hf
      have hf := q_in (fun hz9 => absurd (hx9.symm.trans hz9) (by decide)) hf
      have hf := q_ip hx9 hf
      refine q_blk 1 [] (c' := q_kc (t, r, m, z, N, ext, rx, L) I E 100 [some (.ref 520), some (.int x1), some (.int x2), some (.int ((I 507) j1))] [.int ((I 507) j1)] [] []) ok_X14_pushed rfl q_cn ?_
      cases hf
      exact q_kri ok_X14_pushed rfl rfl rfl (Nat.le_of_ble_eq_true rfl) (Nat.le_of_ble_eq_true rfl) ⟨rfl, q_hpe (q_fin [] rfl) (q_fin [] rfl)⟩
    | 6, ht9 =>
      have hx9 : x1 = 11 := hx9
      cases ht9
      have hf := q_in (fun hz9 => absurd (hx9.symm.trans hz9) (by decide)) hf
      have hf := q_in (fun hz9 => absurd (hx9.symm.trans hz9) (by decide)) hf
      have hf := q_in (fun hz9 => absurd (hx9.symm.trans hz9) (by decide)) hf
      have hf := q_in (fun hz9 => absurd (hx9.symm.trans hz9) (by decide)) hf
      have hf := q_in (fun hz9 => absurd (hx9.symm.trans hz9) (by decide)) hf
      have hf := q_in (fun hz9 => absurd (hx9.symm.trans hz9) (by decide)) hf
      have hf := q_ip hx9 hf
      refine q_blk 1 [] (c' := q_kc (t, r, m, z, N, ext, rx, L) I E 100 [some (.ref 520), some (.int x1), some (.int x2), some (.int ((I 507) j1))] [.int ((I 507) j1)] [] []) ok_X14_pushed rfl q_cn ?_
      cases hf
      exact q_kri ok_X14_pushed rfl rfl rfl (Nat.le_of_ble_eq_true rfl) (Nat.le_of_ble_eq_true rfl) ⟨rfl, q_hpe (q_fin [] rfl) (q_fin [] rfl)⟩
    | 7, ht9 =>
      have hx9 : x1 = 12 := hx9
      cases ht9
      have hf := q_in (fun hz9 => absurd (hx9.symm.trans hz9) (by decide)) hf
      have hf := q_in (fun hz9 => absurd (hx9.symm.trans hz9) (by decide)) hf
      have hf := q_in (fun hz9 => absurd (hx9.symm.trans hz9) (by decide)) hf
      have hf := q_in (fun hz9 => absurd (hx9.symm.trans hz9) (by decide)) hf
      have hf := q_in (fun hz9 => absurd (hx9.symm.trans hz9) (by decide)) hf
      have hf := q_in (fun hz9 => absurd (hx9.symm.trans hz9) (by decide)) hf
      have hf := q_in (fun hz9 => absurd (hx9.symm.trans hz9) (by decide)) hf
      have hf := q_ip hx9 hf
      refine q_blk 1 [] (c' := q_kc (t, r, m, z, N, ext, rx, L) I E 100 [some (.ref 520), some (.int x1), some (.int x2), some (.int ((I 507) j1))] [.int ((I 507) j1)] [] []) ok_X14_pushed rfl q_cn ?_
      cases hf
      exact q_kri ok_X14_pushed rfl rfl rfl (Nat.le_of_ble_eq_true rfl) (Nat.le_of_ble_eq_true rfl) ⟨rfl, q_hpe (q_fin [] rfl) (q_fin [] rfl)⟩
    | 8, ht9 =>
      have hx9 : x1 = 13 := hx9
      cases ht9
      have hf := q_in (fun hz9 => absurd (hx9.symm.trans hz9) (by decide)) hf
      have hf := q_in (fun hz9 => absurd (hx9.symm.trans hz9) (by decide)) hf
      have hf := q_in (fun hz9 => absurd (hx9.symm.trans hz9) (by decide)) hf
      have hf := q_in (fun hz9 => absurd (hx9.symm.trans hz9) (by decide)) hf
      have hf := q_in (fun hz9 => absurd (hx9.symm.trans hz9) (by decide)) hf
      have hf := q_in (fun hz9 => absurd (hx9.symm.trans hz9) (by decide)) hf
      have hf := q_in (fun hz9 => absurd (hx9.symm.trans hz9) (by decide)) hf
      have hf := q_in (fun hz9 => absurd (hx9.symm.trans hz9) (by decide)) hf
      have hf := q_ip hx9 hf
      refine q_blk 1 [] (c' := q_kc (t, r, m, z, N, ext, rx, L) I E 100 [some (.ref 520), some (.int x1), some (.int x2), some (.int ((I 507) j1))] [.int ((I 507) j1)] [] []) ok_X14_pushed rfl q_cn ?_
      cases hf
      exact q_kri ok_X14_pushed rfl rfl rfl (Nat.le_of_ble_eq_true rfl) (Nat.le_of_ble_eq_true rfl) ⟨rfl, q_hpe (q_fin [] rfl) (q_fin [] rfl)⟩
    | 9, ht9 =>
      have hx9 : x1 = 14 := hx9
      cases ht9
      have hf := q_in (fun hz9 => absurd (hx9.symm.trans hz9) (by decide)) hf
      have hf := q_in (fun hz9 => absurd (hx9.symm.trans hz9) (by decide)) hf
      have hf := q_in (fun hz9 => absurd (hx9.symm.trans hz9) (by decide)) hf
      have hf := q_in (fun hz9 => absurd (hx9.symm.trans hz9) (by decide)) hf
      have hf := q_in (fun hz9 => absurd (hx9.symm.trans hz9) (by decide)) hf
      have hf := q_in (fun hz9 => absurd (hx9.symm.trans hz9) (by decide)) hf
      have hf := q_in (fun hz9 => absurd (hx9.symm.trans hz9) (by decide)) hf
      have hf := q_in (fun hz9 => absurd (hx9.symm.trans hz9) (by decide)) hf
      have hf := q_in (fun hz9 => absurd (hx9.symm.trans hz9) (by decide)) hf
      have hf := q_ip hx9 hf
      refine q_blk 1 [] (c' := q_kc (t, r, m, z, N, ext, rx, L) I E 100 [some (.ref 520), some (.int x1), some (.int x2), some (.int ((I 507) j1))] [.int ((I 507) j1)] [] []) ok_X14_pushed rfl q_cn ?_
      cases hf
      exact q_kri ok_X14_pushed rfl rfl rfl (Nat.le_of_ble_eq_true rfl) (Nat.le_of_ble_eq_true rfl) ⟨rfl, q_hpe (q_fin [] rfl) (q_fin [] rfl)⟩
    | 10, ht9 =>
      have hx9 : x1 = 15 := hx9
      cases ht9
      have hf := q_in (fun hz9 => absurd (hx9.symm.trans hz9) (by decide)) hf
      have hf := q_in (fun hz9 => absurd (hx9.symm.trans hz9) (by decide)) hf
      have hf := q_in (fun hz9 => absurd (hx9.symm.trans hz9) (by decide)) hf
      have hf := q_in (fun hz9 => absurd (hx9.symm.trans hz9) (by decide)) hf
      have hf := q_in (fun hz9 => absurd (hx9.symm.trans hz9) (by decide)) hf
      have hf := q_in (fun hz9 => absurd (hx9.symm.trans hz9) (by decide)) hf
      have hf := q_in (fun hz9 => absurd (hx9.symm.trans hz9) (by decide)) hf
      have hf := q_in (fun hz9 => absurd (hx9.symm.trans hz9) (by decide)) hf
      have hf := q_in (fun hz9 => absurd (hx9.symm.trans hz9) (by decide)) hf
      have hf := q_in (fun hz9 => absurd (hx9.symm.trans hz9) (by decide)) hf
      have hf := q_ip hx9 hf
      refine q_blk 1 [] (c' := q_kc (t, r, m, z, N, ext, rx, L) I E 100 [some (.ref 520), some (.int x1), some (.int x2), some (.int ((I 507) j1))] [.int ((I 507) j1)] [] []) ok_X14_pushed rfl q_cn ?_
      cases hf
      exact q_kri ok_X14_pushed rfl rfl rfl (Nat.le_of_ble_eq_true rfl) (Nat.le_of_ble_eq_true rfl) ⟨rfl, q_hpe (q_fin [] rfl) (q_fin [] rfl)⟩
    | 11, ht9 =>
      have hx9 : x1 = 16 := hx9
      cases ht9
      have hf := q_in (fun hz9 => absurd (hx9.symm.trans hz9) (by decide)) hf
      have hf := q_in (fun hz9 => absurd (hx9.symm.trans hz9) (by decide)) hf
      have hf := q_in (fun hz9 => absurd (hx9.symm.trans hz9) (by decide)) hf
      have hf := q_in (fun hz9 => absurd (hx9.symm.trans hz9) (by decide)) hf
      have hf := q_in (fun hz9 => absurd (hx9.symm.trans hz9) (by decide)) hf
      have hf := q_in (fun hz9 => absurd (hx9.symm.trans hz9) (by decide)) hf
      have hf := q_in (fun hz9 => absurd (hx9.symm.trans hz9) (by decide)) hf
      have hf := q_in (fun hz9 => absurd (hx9.symm.trans hz9) (by decide)) hf
      have hf := q_in (fun hz9 => absurd (hx9.symm.trans hz9) (by decide)) hf
      have hf := q_in (fun hz9 => absurd (hx9.symm.trans hz9) (by decide)) hf
      have hf := q_in (fun hz9 => absurd (hx9.symm.trans hz9) (by decide)) hf
      have hf := q_ip hx9 hf
      refine q_blk 2 [] (c' := q_kc (t, r, m, z, N, ext, rx, L) I E 11 [some (.ref 520), some (.int x1), some (.int x2), some (.int ((I 507) j1))] [.int ((I 520) 0)] [] []) ok_X14_pushed rfl q_cn ?_
      cases hf
      exact q_kri ok_X14_pushed rfl rfl rfl (Nat.le_of_ble_eq_true rfl) (Nat.le_of_ble_eq_true rfl) ⟨rfl, q_hpe (q_fin [] rfl) (q_fin [] rfl)⟩
    | 12, ht9 =>
      have hx9 : x1 = 17 := hx9
      cases ht9
      have hf := q_in (fun hz9 => absurd (hx9.symm.trans hz9) (by decide)) hf
      have hf := q_in (fun hz9 => absurd (hx9.symm.trans hz9) (by decide)) hf
      have hf := q_in (fun hz9 => absurd (hx9.symm.trans hz9) (by decide)) hf
      have hf := q_in (fun hz9 => absurd (hx9.symm.trans hz9) (by decide)) hf
      have hf := q_in (fun hz9 => absurd (hx9.symm.trans hz9) (by decide)) hf
      have hf := q_in (fun hz9 => absurd (hx9.symm.trans hz9) (by decide)) hf
      have hf := q_in (fun hz9 => absurd (hx9.symm.trans hz9) (by decide)) hf
      have hf := q_in (fun hz9 => absurd (hx9.symm.trans hz9) (by decide)) hf
      have hf := q_in (fun hz9 => absurd (hx9.symm.trans hz9) (by decide)) hf
      have hf := q_in (fun hz9 => absurd (hx9.symm.trans hz9) (by decide)) hf
      have hf := q_in (fun hz9 => absurd (hx9.symm.trans hz9) (by decide)) hf
      have hf := q_in (fun hz9 => absurd (hx9.symm.trans hz9) (by decide)) hf
      have hf := q_ip hx9 hf
      refine q_blk 2 [] (c' := q_kc (t, r, m, z, N, ext, rx, L) I E 14 [some (.ref 520), some (.int x1), some (.int x2), some (.int ((I 507) j1))] [.int (1 : Int32), .ref 520] [] []) ok_X14_pushed rfl q_cn ?_
      obtain ⟨r6, hr6, hf⟩ := q_bd hf
      refine q_kV (M2 := m_X14_used) (As := [.int (1 : Int32)]) (b := 520) (v2 := some (.int r6)) ok_X14_pushed ok_X14_used cv_X14_used (ct_X14_used_520 (d := 1) (Nat.le_refl _) hr6) rfl rfl (Or.inl rfl) rfl rfl rfl rfl (Nat.le_trans (Nat.le_of_ble_eq_true rfl) hd) (Nat.le_of_ble_eq_true rfl) (Nat.le_of_ble_eq_true rfl) (Nat.le_of_ble_eq_true rfl) (fun x hx => absurd hx List.not_mem_nil) (q_nmL0 _) (q_nmS0 _) rfl (pos' := 15) (st' := [.int r6]) (lI' := []) (lE' := []) rfl rfl rfl rfl ?_
      cases hf
      exact q_kri ok_X14_pushed rfl rfl rfl (Nat.le_of_ble_eq_true rfl) (Nat.le_of_ble_eq_true rfl) ⟨rfl, q_hpe (q_fin [] rfl) (q_fin [] rfl)⟩
    | 13, ht9 =>
      have hx9 : x1 = 18 := hx9
      cases ht9
      have hf := q_in (fun hz9 => absurd (hx9.symm.trans hz9) (by decide)) hf
      have hf := q_in (fun hz9 => absurd (hx9.symm.trans hz9) (by decide)) hf
      have hf := q_in (fun hz9 => absurd (hx9.symm.trans hz9) (by decide)) hf
      have hf := q_in (fun hz9 => absurd (hx9.symm.trans hz9) (by decide)) hf
      have hf := q_in (fun hz9 => absurd (hx9.symm.trans hz9) (by decide)) hf
      have hf := q_in (fun hz9 => absurd (hx9.symm.trans hz9) (by decide)) hf
      have hf := q_in (fun hz9 => absurd (hx9.symm.trans hz9) (by decide)) hf
      have hf := q_in (fun hz9 => absurd (hx9.symm.trans hz9) (by decide)) hf
      have hf := q_in (fun hz9 => absurd (hx9.symm.trans hz9) (by decide)) hf
      have hf := q_in (fun hz9 => absurd (hx9.symm.trans hz9) (by decide)) hf
      have hf := q_in (fun hz9 => absurd (hx9.symm.trans hz9) (by decide)) hf
      have hf := q_in (fun hz9 => absurd (hx9.symm.trans hz9) (by decide)) hf
      have hf := q_in (fun hz9 => absurd (hx9.symm.trans hz9) (by decide)) hf
      have hf := q_ip hx9 hf
      refine q_blk 6 [] (c' := q_kc (t, r, m, z, N, ext, rx, L) I E 22 [some (.ref 520), some (.int x1), some (.int x2), some (.int ((I 507) j1))] [.int (1 : Int32), .ref 520, .int ((I 499) 1)] [] []) ok_X14_pushed rfl q_cn ?_
      obtain ⟨r7, hr7, hf⟩ := q_bd hf
      refine q_kV (M2 := m_X14_used) (As := [.int (1 : Int32)]) (b := 520) (v2 := some (.int r7)) ok_X14_pushed ok_X14_used cv_X14_used (ct_X14_used_520 (d := 1) (Nat.le_refl _) hr7) rfl rfl (Or.inl rfl) rfl rfl rfl rfl (Nat.le_trans (Nat.le_of_ble_eq_true rfl) hd) (Nat.le_of_ble_eq_true rfl) (Nat.le_of_ble_eq_true rfl) (Nat.le_of_ble_eq_true rfl) (fun x hx => absurd hx List.not_mem_nil) (q_nmL0 _) (q_nmS0 _) rfl (pos' := 23) (st' := [.int r7, .int ((I 499) 1)]) (lI' := []) (lE' := []) rfl rfl rfl rfl ?_
      refine q_blk 1 [] (c' := q_kc (t, r, m, z, N, ext, rx, L) I E 24 [some (.ref 520), some (.int x1), some (.int x2), some (.int ((I 507) j1))] [.int (((I 499) 1) - r7)] [] []) ok_X14_pushed rfl q_cn ?_
      cases hf
      exact q_kri ok_X14_pushed rfl rfl rfl (Nat.le_of_ble_eq_true rfl) (Nat.le_of_ble_eq_true rfl) ⟨rfl, q_hpe (q_fin [] rfl) (q_fin [] rfl)⟩
    | 14, ht9 =>
      have hx9 : x1 = 19 := hx9
      cases ht9
      have hf := q_in (fun hz9 => absurd (hx9.symm.trans hz9) (by decide)) hf
      have hf := q_in (fun hz9 => absurd (hx9.symm.trans hz9) (by decide)) hf
      have hf := q_in (fun hz9 => absurd (hx9.symm.trans hz9) (by decide)) hf
      have hf := q_in (fun hz9 => absurd (hx9.symm.trans hz9) (by decide)) hf
      have hf := q_in (fun hz9 => absurd (hx9.symm.trans hz9) (by decide)) hf
      have hf := q_in (fun hz9 => absurd (hx9.symm.trans hz9) (by decide)) hf
      have hf := q_in (fun hz9 => absurd (hx9.symm.trans hz9) (by decide)) hf
      have hf := q_in (fun hz9 => absurd (hx9.symm.trans hz9) (by decide)) hf
      have hf := q_in (fun hz9 => absurd (hx9.symm.trans hz9) (by decide)) hf
      have hf := q_in (fun hz9 => absurd (hx9.symm.trans hz9) (by decide)) hf
      have hf := q_in (fun hz9 => absurd (hx9.symm.trans hz9) (by decide)) hf
      have hf := q_in (fun hz9 => absurd (hx9.symm.trans hz9) (by decide)) hf
      have hf := q_in (fun hz9 => absurd (hx9.symm.trans hz9) (by decide)) hf
      have hf := q_in (fun hz9 => absurd (hx9.symm.trans hz9) (by decide)) hf
      have hf := q_ip hx9 hf
      refine q_blk 2 [] (c' := q_kc (t, r, m, z, N, ext, rx, L) I E 27 [some (.ref 520), some (.int x1), some (.int x2), some (.int ((I 507) j1))] [.int ((I 520) 3)] [] []) ok_X14_pushed rfl q_cn ?_
      cases hf
      exact q_kri ok_X14_pushed rfl rfl rfl (Nat.le_of_ble_eq_true rfl) (Nat.le_of_ble_eq_true rfl) ⟨rfl, q_hpe (q_fin [] rfl) (q_fin [] rfl)⟩
    | 15, ht9 =>
      have hx9 : x1 = 20 := hx9
      cases ht9
      have hf := q_in (fun hz9 => absurd (hx9.symm.trans hz9) (by decide)) hf
      have hf := q_in (fun hz9 => absurd (hx9.symm.trans hz9) (by decide)) hf
      have hf := q_in (fun hz9 => absurd (hx9.symm.trans hz9) (by decide)) hf
      have hf := q_in (fun hz9 => absurd (hx9.symm.trans hz9) (by decide)) hf
      have hf := q_in (fun hz9 => absurd (hx9.symm.trans hz9) (by decide)) hf
      have hf := q_in (fun hz9 => absurd (hx9.symm.trans hz9) (by decide)) hf
      have hf := q_in (fun hz9 => absurd (hx9.symm.trans hz9) (by decide)) hf
      have hf := q_in (fun hz9 => absurd (hx9.symm.trans hz9) (by decide)) hf
      have hf := q_in (fun hz9 => absurd (hx9.symm.trans hz9) (by decide)) hf
      have hf := q_in (fun hz9 => absurd (hx9.symm.trans hz9) (by decide)) hf
      have hf := q_in (fun hz9 => absurd (hx9.symm.trans hz9) (by decide)) hf
      have hf := q_in (fun hz9 => absurd (hx9.symm.trans hz9) (by decide)) hf
      have hf := q_in (fun hz9 => absurd (hx9.symm.trans hz9) (by decide)) hf
      have hf := q_in (fun hz9 => absurd (hx9.symm.trans hz9) (by decide)) hf
      have hf := q_in (fun hz9 => absurd (hx9.symm.trans hz9) (by decide)) hf
      have hf := q_ip hx9 hf
      refine q_blk 1 [] (c' := q_kc (t, r, m, z, N, ext, rx, L) I E 29 [some (.ref 520), some (.int x1), some (.int x2), some (.int ((I 507) j1))] [.ref 520] [] []) ok_X14_pushed rfl q_cn ?_
      obtain ⟨r8, hr8, hf⟩ := q_bd hf
      refine q_kV (M2 := m_X14_bales_) (As := []) (b := 520) (v2 := some (.int r8)) ok_X14_pushed ok_X14_bales_ cv_X14_bales_ (ct_X14_bales__520 (d := 2) (Nat.le_refl _) hr8) rfl rfl (Or.inl rfl) rfl rfl rfl rfl (Nat.le_trans (Nat.le_of_ble_eq_true rfl) hd) (Nat.le_of_ble_eq_true rfl) (Nat.le_of_ble_eq_true rfl) (Nat.le_of_ble_eq_true rfl) (fun x hx => absurd hx List.not_mem_nil) (q_nmL0 _) (q_nmS0 _) rfl (pos' := 30) (st' := [.int r8]) (lI' := []) (lE' := []) rfl rfl rfl rfl ?_
      cases hf
      exact q_kri ok_X14_pushed rfl rfl rfl (Nat.le_of_ble_eq_true rfl) (Nat.le_of_ble_eq_true rfl) ⟨rfl, q_hpe (q_fin [] rfl) (q_fin [] rfl)⟩
    | 16, ht9 =>
      have hx9 : x1 = 21 := hx9
      cases ht9
      have hf := q_in (fun hz9 => absurd (hx9.symm.trans hz9) (by decide)) hf
      have hf := q_in (fun hz9 => absurd (hx9.symm.trans hz9) (by decide)) hf
      have hf := q_in (fun hz9 => absurd (hx9.symm.trans hz9) (by decide)) hf
      have hf := q_in (fun hz9 => absurd (hx9.symm.trans hz9) (by decide)) hf
      have hf := q_in (fun hz9 => absurd (hx9.symm.trans hz9) (by decide)) hf
      have hf := q_in (fun hz9 => absurd (hx9.symm.trans hz9) (by decide)) hf
      have hf := q_in (fun hz9 => absurd (hx9.symm.trans hz9) (by decide)) hf
      have hf := q_in (fun hz9 => absurd (hx9.symm.trans hz9) (by decide)) hf
      have hf := q_in (fun hz9 => absurd (hx9.symm.trans hz9) (by decide)) hf
      have hf := q_in (fun hz9 => absurd (hx9.symm.trans hz9) (by decide)) hf
      have hf := q_in (fun hz9 => absurd (hx9.symm.trans hz9) (by decide)) hf
      have hf := q_in (fun hz9 => absurd (hx9.symm.trans hz9) (by decide)) hf
      have hf := q_in (fun hz9 => absurd (hx9.symm.trans hz9) (by decide)) hf
      have hf := q_in (fun hz9 => absurd (hx9.symm.trans hz9) (by decide)) hf
      have hf := q_in (fun hz9 => absurd (hx9.symm.trans hz9) (by decide)) hf
      have hf := q_in (fun hz9 => absurd (hx9.symm.trans hz9) (by decide)) hf
      have hf := q_ip hx9 hf
      obtain ⟨j9, hj9, hf⟩ := q_bd hf
      refine q_blf 5 [j9] (a := q_kc (t, r, m, z, N, ext, rx, L) I E 55 [some (.ref 520), some (.int x1), some (.int x2), some (.int ((I 507) j1))] [] [] []) (b := q_kc (t, r, m, z, N, ext, rx, L) I E 53 [some (.ref 520), some (.int x1), some (.int x2), some (.int ((I 507) j1))] [] [] []) (P := ¬ ((I 521) j9) = (-1 : Int32)) ok_X14_pushed rfl (q_cc hj9 q_cn) (fun h10 => ?_) (fun h10 => ?_)
      · have hf := q_ip h10 hf
        obtain ⟨j11, hj11, hf⟩ := q_bd hf
        obtain ⟨j12, hj12, hf⟩ := q_bd hf
        refine q_blk 7 [j11, j12] (c' := q_kc (t, r, m, z, N, ext, rx, L) I E 62 [some (.ref 520), some (.int x1), some (.int x2), some (.int ((I 507) j1))] [.int ((I 526) j12)] [] []) ok_X14_pushed rfl (q_cc hj12 (q_cc hj11 q_cn)) ?_
        cases hf
        exact q_kri ok_X14_pushed rfl rfl rfl (Nat.le_of_ble_eq_true rfl) (Nat.le_of_ble_eq_true rfl) ⟨rfl, q_hpe (q_fin [] rfl) (q_fin [] rfl)⟩
      · have hf := q_in h10 hf
        refine q_blk 2 [] (c' := q_kc (t, r, m, z, N, ext, rx, L) I E 62 [some (.ref 520), some (.int x1), some (.int x2), some (.int ((I 507) j1))] [.int (0 : Int32)] [] []) ok_X14_pushed rfl q_cn ?_
        cases hf
        exact q_kri ok_X14_pushed rfl rfl rfl (Nat.le_of_ble_eq_true rfl) (Nat.le_of_ble_eq_true rfl) ⟨rfl, q_hpe (q_fin [] rfl) (q_fin [] rfl)⟩
    | 17, ht9 =>
      have hx9 : x1 = 22 := hx9
      cases ht9
      have hf := q_in (fun hz9 => absurd (hx9.symm.trans hz9) (by decide)) hf
      have hf := q_in (fun hz9 => absurd (hx9.symm.trans hz9) (by decide)) hf
      have hf := q_in (fun hz9 => absurd (hx9.symm.trans hz9) (by decide)) hf
      have hf := q_in (fun hz9 => absurd (hx9.symm.trans hz9) (by decide)) hf
      have hf := q_in (fun hz9 => absurd (hx9.symm.trans hz9) (by decide)) hf
      have hf := q_in (fun hz9 => absurd (hx9.symm.trans hz9) (by decide)) hf
      have hf := q_in (fun hz9 => absurd (hx9.symm.trans hz9) (by decide)) hf
      have hf := q_in (fun hz9 => absurd (hx9.symm.trans hz9) (by decide)) hf
      have hf := q_in (fun hz9 => absurd (hx9.symm.trans hz9) (by decide)) hf
      have hf := q_in (fun hz9 => absurd (hx9.symm.trans hz9) (by decide)) hf
      have hf := q_in (fun hz9 => absurd (hx9.symm.trans hz9) (by decide)) hf
      have hf := q_in (fun hz9 => absurd (hx9.symm.trans hz9) (by decide)) hf
      have hf := q_in (fun hz9 => absurd (hx9.symm.trans hz9) (by decide)) hf
      have hf := q_in (fun hz9 => absurd (hx9.symm.trans hz9) (by decide)) hf
      have hf := q_in (fun hz9 => absurd (hx9.symm.trans hz9) (by decide)) hf
      have hf := q_in (fun hz9 => absurd (hx9.symm.trans hz9) (by decide)) hf
      have hf := q_in (fun hz9 => absurd (hx9.symm.trans hz9) (by decide)) hf
      have hf := q_ip hx9 hf
      obtain ⟨j13, hj13, hf⟩ := q_bd hf
      refine q_blf 5 [j13] (a := q_kc (t, r, m, z, N, ext, rx, L) I E 71 [some (.ref 520), some (.int x1), some (.int x2), some (.int ((I 507) j1))] [] [] []) (b := q_kc (t, r, m, z, N, ext, rx, L) I E 69 [some (.ref 520), some (.int x1), some (.int x2), some (.int ((I 507) j1))] [] [] []) (P := ¬ ((I 521) j13) = (-1 : Int32)) ok_X14_pushed rfl (q_cc hj13 q_cn) (fun h14 => ?_) (fun h14 => ?_)
      · have hf := q_ip h14 hf
        refine q_blk 1 [] (c' := q_kc (t, r, m, z, N, ext, rx, L) I E 72 [some (.ref 520), some (.int x1), some (.int x2), some (.int ((I 507) j1))] [.int (1 : Int32)] [] []) ok_X14_pushed rfl q_cn ?_
        cases hf
        exact q_kri ok_X14_pushed rfl rfl rfl (Nat.le_of_ble_eq_true rfl) (Nat.le_of_ble_eq_true rfl) ⟨rfl, q_hpe (q_fin [] rfl) (q_fin [] rfl)⟩
      · have hf := q_in h14 hf
        refine q_blk 2 [] (c' := q_kc (t, r, m, z, N, ext, rx, L) I E 72 [some (.ref 520), some (.int x1), some (.int x2), some (.int ((I 507) j1))] [.int (0 : Int32)] [] []) ok_X14_pushed rfl q_cn ?_
        cases hf
        exact q_kri ok_X14_pushed rfl rfl rfl (Nat.le_of_ble_eq_true rfl) (Nat.le_of_ble_eq_true rfl) ⟨rfl, q_hpe (q_fin [] rfl) (q_fin [] rfl)⟩
    | 18, ht9 =>
      have hx9 : x1 = 23 := hx9
      cases ht9
      have hf := q_in (fun hz9 => absurd (hx9.symm.trans hz9) (by decide)) hf
      have hf := q_in (fun hz9 => absurd (hx9.symm.trans hz9) (by decide)) hf
      have hf := q_in (fun hz9 => absurd (hx9.symm.trans hz9) (by decide)) hf
      have hf := q_in (fun hz9 => absurd (hx9.symm.trans hz9) (by decide)) hf
      have hf := q_in (fun hz9 => absurd (hx9.symm.trans hz9) (by decide)) hf
      have hf := q_in (fun hz9 => absurd (hx9.symm.trans hz9) (by decide)) hf
      have hf := q_in (fun hz9 => absurd (hx9.symm.trans hz9) (by decide)) hf
      have hf := q_in (fun hz9 => absurd (hx9.symm.trans hz9) (by decide)) hf
      have hf := q_in (fun hz9 => absurd (hx9.symm.trans hz9) (by decide)) hf
      have hf := q_in (fun hz9 => absurd (hx9.symm.trans hz9) (by decide)) hf
      have hf := q_in (fun hz9 => absurd (hx9.symm.trans hz9) (by decide)) hf
      have hf := q_in (fun hz9 => absurd (hx9.symm.trans hz9) (by decide)) hf
      have hf := q_in (fun hz9 => absurd (hx9.symm.trans hz9) (by decide)) hf
      have hf := q_in (fun hz9 => absurd (hx9.symm.trans hz9) (by decide)) hf
      have hf := q_in (fun hz9 => absurd (hx9.symm.trans hz9) (by decide)) hf
      have hf := q_in (fun hz9 => absurd (hx9.symm.trans hz9) (by decide)) hf
      have hf := q_in (fun hz9 => absurd (hx9.symm.trans hz9) (by decide)) hf
      have hf := q_in (fun hz9 => absurd (hx9.symm.trans hz9) (by decide)) hf
      have hf := q_ip hx9 hf
      obtain ⟨j15, hj15, hf⟩ := q_bd hf
      refine q_blf 5 [j15] (a := q_kc (t, r, m, z, N, ext, rx, L) I E 97 [some (.ref 520), some (.int x1), some (.int x2), some (.int ((I 507) j1))] [] [] []) (b := q_kc (t, r, m, z, N, ext, rx, L) I E 79 [some (.ref 520), some (.int x1), some (.int x2), some (.int ((I 507) j1))] [] [] []) (P := ((I 521) j15) = (-1 : Int32)) ok_X14_pushed rfl (q_cc hj15 q_cn) (fun h16 => ?_) (fun h16 => ?_)
      · have hf := q_ip h16 hf
        refine q_blk 1 [] (c' := q_kc (t, r, m, z, N, ext, rx, L) I E 98 [some (.ref 520), some (.int x1), some (.int x2), some (.int ((I 507) j1))] [.int (0 : Int32)] [] []) ok_X14_pushed rfl q_cn ?_
        cases hf
        exact q_kri ok_X14_pushed rfl rfl rfl (Nat.le_of_ble_eq_true rfl) (Nat.le_of_ble_eq_true rfl) ⟨rfl, q_hpe (q_fin [] rfl) (q_fin [] rfl)⟩
      · have hf := q_in h16 hf
        obtain ⟨j17, hj17, hf⟩ := q_bd hf
        obtain ⟨j18, hj18, hf⟩ := q_bd hf
        obtain ⟨j19, hj19, hf⟩ := q_bd hf
        refine q_blf 15 [j17, j18, j19] (a := q_kc (t, r, m, z, N, ext, rx, L) I E 97 [some (.ref 520), some (.int x1), some (.int x2), some (.int ((I 507) j1))] [] [] []) (b := q_kc (t, r, m, z, N, ext, rx, L) I E 95 [some (.ref 520), some (.int x1), some (.int x2), some (.int ((I 507) j1))] [] [] []) (P := ¬ ((I 521) j17) = ((I 521) j19)) ok_X14_pushed rfl (q_cc hj19 (q_cc hj18 (q_cc hj17 q_cn))) (fun h20 => ?_) (fun h20 => ?_)
        · have hf := q_ip h20 hf
          refine q_blk 1 [] (c' := q_kc (t, r, m, z, N, ext, rx, L) I E 98 [some (.ref 520), some (.int x1), some (.int x2), some (.int ((I 507) j1))] [.int (0 : Int32)] [] []) ok_X14_pushed rfl q_cn ?_
          cases hf
          exact q_kri ok_X14_pushed rfl rfl rfl (Nat.le_of_ble_eq_true rfl) (Nat.le_of_ble_eq_true rfl) ⟨rfl, q_hpe (q_fin [] rfl) (q_fin [] rfl)⟩
        · have hf := q_in h20 hf
          refine q_blk 2 [] (c' := q_kc (t, r, m, z, N, ext, rx, L) I E 98 [some (.ref 520), some (.int x1), some (.int x2), some (.int ((I 507) j1))] [.int (1 : Int32)] [] []) ok_X14_pushed rfl q_cn ?_
          cases hf
          exact q_kri ok_X14_pushed rfl rfl rfl (Nat.le_of_ble_eq_true rfl) (Nat.le_of_ble_eq_true rfl) ⟨rfl, q_hpe (q_fin [] rfl) (q_fin [] rfl)⟩
    | z9 + 19, ht9 => cases ht9
  · have hf := q_in (hx9 0 (by decide)) hf
    have hf := q_in (hx9 1 (by decide)) hf
    have hf := q_in (hx9 2 (by decide)) hf
    have hf := q_in (hx9 3 (by decide)) hf
    have hf := q_in (hx9 4 (by decide)) hf
    have hf := q_in (hx9 5 (by decide)) hf
    have hf := q_in (hx9 6 (by decide)) hf
    have hf := q_in (hx9 7 (by decide)) hf
    have hf := q_in (hx9 8 (by decide)) hf
    have hf := q_in (hx9 9 (by decide)) hf
    have hf := q_in (hx9 10 (by decide)) hf
    have hf := q_in (hx9 11 (by decide)) hf
    have hf := q_in (hx9 12 (by decide)) hf
    have hf := q_in (hx9 13 (by decide)) hf
    have hf := q_in (hx9 14 (by decide)) hf
    have hf := q_in (hx9 15 (by decide)) hf
    have hf := q_in (hx9 16 (by decide)) hf
    have hf := q_in (hx9 17 (by decide)) hf
    have hf := q_in (hx9 18 (by decide)) hf
    refine q_blk 1 [] (c' := q_kc (t, r, m, z, N, ext, rx, L) I E 100 [some (.ref 520), some (.int x1), some (.int x2), some (.int ((I 507) j1))] [.int ((I 507) j1)] [] []) ok_X14_pushed rfl q_cn ?_
    cases hf
    exact q_kri ok_X14_pushed rfl rfl rfl (Nat.le_of_ble_eq_true rfl) (Nat.le_of_ble_eq_true rfl) ⟨rfl, q_hpe (q_fin [] rfl) (q_fin [] rfl)⟩
set_option maxHeartbeats 4000000 in
theorem lp_X14_carryOut_L4_520 {g : q_G} {d mc ms : Nat} {h0 : q_H} {Q : (Option Value ⊕ String) → q_H → Prop} {k n : Nat} {t : Nat} {r : Nat} {m : Nat} {z : Nat} {N : Nat} {ext : Nat → q_Sh} {rx : Nat → Nat → Option Nat} {L : Nat → Nat → Int64} (hd : 4 ≤ d) (hk : k ≤ mc) (hn : n ≤ ms)  {v2 : Int32} : ∀ (fu : Nat) {I : Nat → Nat → Int32} {E : Nat → Nat → Option Nat} {v3 : Int32} {v4 : Int32} {r0 : (Nat → Int32)} (hf : f_X14_carryOut_L4 (I 499) (I 507) (I 520) (I 521) (I 522) (I 524) (I 526) v2 fu (I 509) v3 v4 = some r0) (hK0 : q_J g m_X14_carryOut d mc ms h0 [] Q k n (q_kc (t, r, m, z, N, ext, rx, L) I E 85 [some (.ref 520), none, none, none, none, none, none] [] [(509, r0)] [])), q_J g m_X14_carryOut d mc ms h0 [] Q k n (4, [some (.ref 520), none, some (.int v2), some (.int v3), some (.int v4), none, none], [], q_hp (t, r, m, z, N, ext, rx, L) I E) := by
  intro fu
  induction fu with
  | zero =>
    intro I E v3 v4 r0 hf hK0
    rw [f_X14_carryOut_L4] at hf
    cases hf
  | succ fu ih =>
    intro I E v3 v4 r0 hf hK0
    rw [f_X14_carryOut_L4] at hf
    change q_J g m_X14_carryOut d mc ms h0 [] Q k n (q_kc (t, r, m, z, N, ext, rx, L) I E 4 [some (.ref 520), none, some (.int v2), some (.int v3), some (.int v4), none, none] [] [] [])
    refine q_blf 2 [] (a := q_kc (t, r, m, z, N, ext, rx, L) I E 85 [some (.ref 520), none, some (.int v2), some (.int v3), some (.int v4), none, none] [] [] []) (b := q_kc (t, r, m, z, N, ext, rx, L) I E 7 [some (.ref 520), none, some (.int v2), some (.int v3), some (.int v4), none, none] [] [] []) (P := v2 ≤ v4) ok_X14_carryOut rfl q_cn (fun h1 => ?_) (fun h1 => ?_)
    · have hf := q_ip h1 hf
      refine q_less (ls' := [some (.ref 520), none, none, none, none, none, none]) (q_sb2 (q_sb1 (q_sb1 (q_sb1 (q_sb1 (q_sb1 (q_sb1 q_sb0))))))) ?_
      cases hf
      exact q_Jpad [509] [] rfl rfl hK0
    · have hf := q_in h1 hf
      obtain ⟨j2, hj2, hf⟩ := q_bd hf
      refine q_blk 9 [j2] (c' := q_kc (t, r, m, z, N, ext, rx, L) I E 16 [some (.ref 520), none, some (.int v2), some (.int v3), some (.int (v4 + 1)), some (.int ((I 507) j2)), none] [.int ((I 507) j2)] [] []) ok_X14_carryOut rfl (q_cc hj2 q_cn) ?_
      obtain ⟨r3, hr3, hf⟩ := q_bd hf
      refine q_kS (M2 := m_X15_taken) (As := [.int ((I 507) j2)]) (v2 := some (.int r3)) ok_X14_carryOut ok_X15_taken cs_X15_taken (ct_X15_taken (d := 1) (Nat.le_refl _) hr3) rfl rfl (Or.inr ⟨_, rfl⟩) (Nat.le_trans (Nat.le_of_ble_eq_true rfl) hd) hk hn (Nat.le_of_ble_eq_true rfl) (fun x hx => absurd hx List.not_mem_nil) (q_nmL0 _) (q_nmS0 _) rfl (pos' := 17) (st' := [.int r3]) (lI' := []) (lE' := []) rfl rfl rfl rfl ?_
      refine q_blf 2 [] (a := q_kc (t, r, m, z, N, ext, rx, L) I E 35 [some (.ref 520), none, some (.int v2), some (.int v3), some (.int (v4 + 1)), some (.int ((I 507) j2)), some (.int r3)] [] [] []) (b := q_kc (t, r, m, z, N, ext, rx, L) I E 20 [some (.ref 520), none, some (.int v2), some (.int v3), some (.int (v4 + 1)), some (.int ((I 507) j2)), some (.int r3)] [] [] []) (P := r3 < 0) ok_X14_carryOut rfl q_cn (fun h4 => ?_) (fun h4 => ?_)
      · have hf := q_ip h4 hf
        refine q_blf 2 [] (a := q_kc (t, r, m, z, N, ext, rx, L) I E 41 [some (.ref 520), none, some (.int v2), some (.int v3), some (.int (v4 + 1)), some (.int ((I 507) j2)), some (.int r3)] [] [] []) (b := q_kc (t, r, m, z, N, ext, rx, L) I E 38 [some (.ref 520), none, some (.int v2), some (.int v3), some (.int (v4 + 1)), some (.int ((I 507) j2)), some (.int r3)] [] [] []) (P := ((I 507) j2) = (33 : Int32)) ok_X14_carryOut rfl q_cn (fun h5 => ?_) (fun h5 => ?_)
        · have hf := q_ip h5 hf
          refine q_blf 6 [] (a := q_kc (t, r, m, z, N, ext, rx, L) I E 55 [some (.ref 520), none, some (.int v2), some (.int v3), some (.int (v4 + 1)), some (.int ((I 507) j2)), some (.int r3)] [.int v3, .ref 509] [] []) (b := q_kc (t, r, m, z, N, ext, rx, L) I E 48 [some (.ref 520), none, some (.int v2), some (.int v3), some (.int (v4 + 1)), some (.int ((I 507) j2)), some (.int r3)] [.int v3, .ref 509] [] []) (P := ¬ ((I 507) j2) = (33 : Int32)) ok_X14_carryOut rfl q_cn (fun h6 => ?_) (fun h6 => ?_)
          · have hf := q_ip h6 hf
            obtain ⟨j7, hj7, hf⟩ := q_bd hf
            obtain ⟨j8, hj8, hf⟩ := q_bd hf
            refine q_blk 10 [j7, j8] (c' := q_kc (t, r, m, z, N, ext, rx, L) I E 4 [some (.ref 520), none, some (.int v2), some (.int v3), some (.int (v4 + 1)), some (.int ((I 507) j2)), some (.int r3)] [] [(509, (q_up (I 509) j8 ((1 : Int32) - ((I 509) j7))))] []) ok_X14_carryOut rfl (q_cc hj8 (q_cc hj7 q_cn)) ?_
            refine q_less (ls' := [some (.ref 520), none, some (.int v2), some (.int v3), some (.int (v4 + 1)), none, none]) (q_sb2 (q_sb1 (q_sb2 (q_sb2 (q_sb2 (q_sb1 (q_sb1 q_sb0))))))) ?_
            exact ih (I := q_ws I [(509, (q_up (I 509) j8 ((1 : Int32) - ((I 509) j7))))]) (E := q_ws E []) hf (q_Jmrg rfl rfl hK0)
          · have hf := q_in h6 hf
            obtain ⟨j9, hj9, hf⟩ := q_bd hf
            obtain ⟨j10, hj10, hf⟩ := q_bd hf
            refine q_blk 10 [j9, j10] (c' := q_kc (t, r, m, z, N, ext, rx, L) I E 4 [some (.ref 520), none, some (.int v2), some (.int v3), some (.int (v4 + 1)), some (.int ((I 507) j2)), some (.int r3)] [] [(509, (q_up (I 509) j10 (-((I 509) j9))))] []) ok_X14_carryOut rfl (q_cc hj10 (q_cc hj9 q_cn)) ?_
            refine q_less (ls' := [some (.ref 520), none, some (.int v2), some (.int v3), some (.int (v4 + 1)), none, none]) (q_sb2 (q_sb1 (q_sb2 (q_sb2 (q_sb2 (q_sb1 (q_sb1 q_sb0))))))) ?_
            exact ih (I := q_ws I [(509, (q_up (I 509) j10 (-((I 509) j9))))]) (E := q_ws E []) hf (q_Jmrg rfl rfl hK0)
        · have hf := q_in h5 hf
          refine q_blf 2 [] (a := q_kc (t, r, m, z, N, ext, rx, L) I E 64 [some (.ref 520), none, some (.int v2), some (.int v3), some (.int (v4 + 1)), some (.int ((I 507) j2)), some (.int r3)] [] [] []) (b := q_kc (t, r, m, z, N, ext, rx, L) I E 41 [some (.ref 520), none, some (.int v2), some (.int v3), some (.int (v4 + 1)), some (.int ((I 507) j2)), some (.int r3)] [] [] []) (P := ¬ ((I 507) j2) = (24 : Int32)) ok_X14_carryOut rfl q_cn (fun h11 => ?_) (fun h11 => ?_)
          · have hf := q_ip h11 hf
            obtain ⟨j12, hj12, hf⟩ := q_bd hf
            obtain ⟨j13, hj13, hf⟩ := q_bd hf
            refine q_blk 18 [j12, j13] (c' := q_kc (t, r, m, z, N, ext, rx, L) I E 82 [some (.ref 520), none, some (.int v2), some (.int (v3 + (-1))), some (.int (v4 + 1)), some (.int ((I 507) j2)), some (.int r3)] [.int ((I 509) j13), .int ((I 509) j12), .int ((I 507) j2), .int (v3 + (-1)), .ref 509] [] []) ok_X14_carryOut rfl (q_cc hj13 (q_cc hj12 q_cn)) ?_
            obtain ⟨r14, hr14, hf⟩ := q_bd hf
            refine q_kS (M2 := m_X15_both) (As := [.int ((I 507) j2), .int ((I 509) j12), .int ((I 509) j13)]) (v2 := some (.int r14)) ok_X14_carryOut ok_X15_both cs_X15_both (ct_X15_both (d := 2) (Nat.le_refl _) hr14) rfl rfl (Or.inr ⟨_, rfl⟩) (Nat.le_trans (Nat.le_of_ble_eq_true rfl) hd) hk hn (Nat.le_of_ble_eq_true rfl) (fun x hx => absurd hx List.not_mem_nil) (q_nmL0 _) (q_nmS0 _) rfl (pos' := 83) (st' := [.int r14, .int (v3 + (-1)), .ref 509]) (lI' := []) (lE' := []) rfl rfl rfl rfl ?_
            obtain ⟨j15, hj15, hf⟩ := q_bd hf
            refine q_blk 2 [j15] (c' := q_kc (t, r, m, z, N, ext, rx, L) I E 4 [some (.ref 520), none, some (.int v2), some (.int (v3 + (-1))), some (.int (v4 + 1)), some (.int ((I 507) j2)), some (.int r3)] [] [(509, (q_up (I 509) j15 r14))] []) ok_X14_carryOut rfl (q_cc hj15 q_cn) ?_
            refine q_less (ls' := [some (.ref 520), none, some (.int v2), some (.int (v3 + (-1))), some (.int (v4 + 1)), none, none]) (q_sb2 (q_sb1 (q_sb2 (q_sb2 (q_sb2 (q_sb1 (q_sb1 q_sb0))))))) ?_
            exact ih (I := q_ws I [(509, (q_up (I 509) j15 r14))]) (E := q_ws E []) hf (q_Jmrg rfl rfl hK0)
          · have hf := q_in h11 hf
            refine q_blf 6 [] (a := q_kc (t, r, m, z, N, ext, rx, L) I E 55 [some (.ref 520), none, some (.int v2), some (.int v3), some (.int (v4 + 1)), some (.int ((I 507) j2)), some (.int r3)] [.int v3, .ref 509] [] []) (b := q_kc (t, r, m, z, N, ext, rx, L) I E 48 [some (.ref 520), none, some (.int v2), some (.int v3), some (.int (v4 + 1)), some (.int ((I 507) j2)), some (.int r3)] [.int v3, .ref 509] [] []) (P := ¬ ((I 507) j2) = (33 : Int32)) ok_X14_carryOut rfl q_cn (fun h16 => ?_) (fun h16 => ?_)
            · have hf := q_ip h16 hf
              obtain ⟨j17, hj17, hf⟩ := q_bd hf
              obtain ⟨j18, hj18, hf⟩ := q_bd hf
              refine q_blk 10 [j17, j18] (c' := q_kc (t, r, m, z, N, ext, rx, L) I E 4 [some (.ref 520), none, some (.int v2), some (.int v3), some (.int (v4 + 1)), some (.int ((I 507) j2)), some (.int r3)] [] [(509, (q_up (I 509) j18 ((1 : Int32) - ((I 509) j17))))] []) ok_X14_carryOut rfl (q_cc hj18 (q_cc hj17 q_cn)) ?_
              refine q_less (ls' := [some (.ref 520), none, some (.int v2), some (.int v3), some (.int (v4 + 1)), none, none]) (q_sb2 (q_sb1 (q_sb2 (q_sb2 (q_sb2 (q_sb1 (q_sb1 q_sb0))))))) ?_
              exact ih (I := q_ws I [(509, (q_up (I 509) j18 ((1 : Int32) - ((I 509) j17))))]) (E := q_ws E []) hf (q_Jmrg rfl rfl hK0)
            · have hf := q_in h16 hf
              obtain ⟨j19, hj19, hf⟩ := q_bd hf
              obtain ⟨j20, hj20, hf⟩ := q_bd hf
              refine q_blk 10 [j19, j20] (c' := q_kc (t, r, m, z, N, ext, rx, L) I E 4 [some (.ref 520), none, some (.int v2), some (.int v3), some (.int (v4 + 1)), some (.int ((I 507) j2)), some (.int r3)] [] [(509, (q_up (I 509) j20 (-((I 509) j19))))] []) ok_X14_carryOut rfl (q_cc hj20 (q_cc hj19 q_cn)) ?_
              refine q_less (ls' := [some (.ref 520), none, some (.int v2), some (.int v3), some (.int (v4 + 1)), none, none]) (q_sb2 (q_sb1 (q_sb2 (q_sb2 (q_sb2 (q_sb1 (q_sb1 q_sb0))))))) ?_
              exact ih (I := q_ws I [(509, (q_up (I 509) j20 (-((I 509) j19))))]) (E := q_ws E []) hf (q_Jmrg rfl rfl hK0)
      · have hf := q_in h4 hf
        refine q_blk 8 [] (c' := q_kc (t, r, m, z, N, ext, rx, L) I E 28 [some (.ref 520), none, some (.int v2), some (.int (v3 + 1)), some (.int (v4 + 1)), some (.int ((I 507) j2)), some (.int r3)] [.int (v4 + 1), .int ((I 507) j2), .ref 520, .int (v3 + 1), .ref 509] [] []) ok_X14_carryOut rfl q_cn ?_
        obtain ⟨r21, hr21, hf⟩ := q_bd hf
        refine q_kV (M2 := m_X14_pushed) (As := [.int ((I 507) j2), .int (v4 + 1)]) (b := 520) (v2 := some (.int r21)) ok_X14_carryOut ok_X14_pushed cv_X14_pushed (ct_X14_pushed_520 (d := 3) (Nat.le_refl _) hr21) rfl rfl (Or.inl rfl) rfl rfl rfl rfl (Nat.le_trans (Nat.le_of_ble_eq_true rfl) hd) hk hn (Nat.le_of_ble_eq_true rfl) (fun x hx => absurd hx List.not_mem_nil) (q_nmL0 _) (q_nmS0 _) rfl (pos' := 29) (st' := [.int r21, .int (v3 + 1), .ref 509]) (lI' := []) (lE' := []) rfl rfl rfl rfl ?_
        obtain ⟨j22, hj22, hf⟩ := q_bd hf
        refine q_blk 7 [j22] (c' := q_kc (t, r, m, z, N, ext, rx, L) I E 4 [some (.ref 520), none, some (.int v2), some (.int (v3 + 1)), some (.int ((v4 + 1) + r3)), some (.int ((I 507) j2)), some (.int r3)] [] [(509, (q_up (I 509) j22 r21))] []) ok_X14_carryOut rfl (q_cc hj22 q_cn) ?_
        refine q_less (ls' := [some (.ref 520), none, some (.int v2), some (.int (v3 + 1)), some (.int ((v4 + 1) + r3)), none, none]) (q_sb2 (q_sb1 (q_sb2 (q_sb2 (q_sb2 (q_sb1 (q_sb1 q_sb0))))))) ?_
        exact ih (I := q_ws I [(509, (q_up (I 509) j22 r21))]) (E := q_ws E []) hf (q_Jmrg rfl rfl hK0)
set_option maxHeartbeats 4000000 in
theorem ct_X14_carryOut_520 {g : q_G} {t : Nat} {r : Nat} {m : Nat} {z : Nat} {N : Nat} {ext : Nat → q_Sh} {rx : Nat → Nat → Option Nat} {L : Nat → Nat → Int64} {d : Nat} (hd : 4 ≤ d)  {I : Nat → Nat → Int32} {E : Nat → Nat → Option Nat} {x1 : Int32} {x2 : Int32} {r0 : Int32 × (Nat → Int32)} (hf : f_X14_carryOut (I 499) (I 507) (I 509) (I 520) (I 521) (I 522) (I 524) (I 526) x1 x2 = some r0) : q_Ct g m_X14_carryOut d 0 0 [] [.ref 520, .int x1, .int x2] (q_hp (t, r, m, z, N, ext, rx, L) I E) (fun o h' => o = .inl (some (.int r0.1)) ∧ h' = q_hp (t, r, m, z, N, ext, rx, L) (q_ws I [(509, r0.2)]) (q_ws E [])) := by
  rw [f_X14_carryOut] at hf
  refine q_Ct_of ok_X14_carryOut (Nat.le_of_ble_eq_true rfl) ?_ _ rfl rfl
  change q_J g m_X14_carryOut d 0 0 _ [] _ 0 0 (q_kc (t, r, m, z, N, ext, rx, L) I E 0 [some (.ref 520), some (.int x1), some (.int x2), none, none, none, none] [] [] [])
  refine q_blk 4 [] (c' := q_kc (t, r, m, z, N, ext, rx, L) I E 4 [some (.ref 520), some (.int x1), some (.int x2), some (.int (-1 : Int32)), some (.int x1), none, none] [] [] []) ok_X14_carryOut rfl q_cn ?_
  refine q_less (ls' := [some (.ref 520), none, some (.int x2), some (.int (-1 : Int32)), some (.int x1), none, none]) (q_sb2 (q_sb1 (q_sb2 (q_sb2 (q_sb2 (q_sb1 (q_sb1 q_sb0))))))) ?_
  obtain ⟨r23, hr23, hf⟩ := q_bd hf
  refine lp_X14_carryOut_L4_520 (I := q_ws I []) (E := q_ws E []) hd (Nat.le_of_ble_eq_true rfl) (Nat.le_of_ble_eq_true rfl) 4096 hr23 ?_
  refine q_Jmrg (lI' := [(509, r23)]) (lE' := []) rfl rfl ?_
  obtain ⟨j24, hj24, hf⟩ := q_bd hf
  refine q_blk 5 [j24] (c' := q_kc (t, r, m, z, N, ext, rx, L) I E 90 [some (.ref 520), none, none, none, none, none, none] [.int (r23 j24)] [(509, r23)] []) ok_X14_carryOut rfl (q_cc hj24 q_cn) ?_
  cases hf
  exact q_kri ok_X14_carryOut rfl rfl rfl (Nat.le_of_ble_eq_true rfl) (Nat.le_of_ble_eq_true rfl) ⟨rfl, q_hpe (q_fin [509] rfl) (q_fin [] rfl)⟩
set_option maxHeartbeats 4000000 in
theorem ct_X14_copy_520_522_529_O {g : q_G} {t : Nat} {r : Nat} {m : Nat} {z : Nat} {ext : Nat → q_Sh} {rx : Nat → Nat → Option Nat} {L : Nat → Nat → Int64} {d : Nat} (hd : 2 ≤ d)  {I : Nat → Nat → Int32} {E : Nat → Nat → Option Nat} {r0 : (Nat → Int32)} (hf : f_X14_copy (I 522) (I 529) = some r0) : q_Ct g m_X14_copy d 0 0 [] [.ref 520, .ref 522, .ref 529] (q_hp (t, r, m, z, 530, (q_ur ext 529 (1, 0, 136)), rx, L) I E) (fun o h' => o = .inl none ∧ h' = q_hp (t, r, m, z, 530, (q_ur ext 529 (1, 0, 136)), rx, L) (q_ws I [(529, r0)]) (q_ws E [])) := by
  rw [f_X14_copy] at hf
  refine q_Ct_of ok_X14_copy (Nat.le_of_ble_eq_true rfl) ?_ _ rfl rfl
  change q_J g m_X14_copy d 0 0 _ [] _ 0 0 (q_kc (t, r, m, z, 530, (q_ur ext 529 (1, 0, 136)), rx, L) I E 0 [some (.ref 520), some (.ref 522), some (.ref 529)] [] [] [])
  refine q_blk 6 [] (c' := q_kc (t, r, m, z, 530, (q_ur ext 529 (1, 0, 136)), rx, L) I E 6 [some (.ref 520), some (.ref 522), some (.ref 529)] [.int (nI 136), .int (0 : Int32), .ref 529, .int (0 : Int32), .ref 522] [] []) ok_X14_copy rfl q_cn ?_
  refine q_kcp (c := 136) (pos' := 7) (lI' := [(529, (q_cp (I 522) (I 529) 136))]) ok_X14_copy rfl rfl (Nat.le_trans (Nat.le_of_ble_eq_true rfl) hd) (Nat.le_of_ble_eq_true rfl) rfl rfl rfl rfl rfl rfl rfl rfl rfl rfl ?_
  cases hf
  exact q_krv ok_X14_copy rfl rfl (Nat.le_of_ble_eq_true rfl) (Nat.le_of_ble_eq_true rfl) ⟨rfl, q_hpe (q_fin [529] rfl) (q_fin [] rfl)⟩
set_option maxHeartbeats 4000000 in
theorem lp_X14_forget_L6_520 {g : q_G} {d mc ms : Nat} {h0 : q_H} {Q : (Option Value ⊕ String) → q_H → Prop} {k n : Nat} {t : Nat} {r : Nat} {m : Nat} {z : Nat} {N : Nat} {ext : Nat → q_Sh} {rx : Nat → Nat → Option Nat} {L : Nat → Nat → Int64} (hd : 1 ≤ d) (hk : k ≤ mc) (hn : n ≤ ms)  : ∀ (fu : Nat) {I : Nat → Nat → Int32} {E : Nat → Nat → Option Nat} {v1 : Int32} {r0 : (Nat → Int32)} (hf : f_X14_forget_L6 fu (I 511) v1 = some r0) (hK0 : q_J g m_X14_forget d mc ms h0 [] Q k n (q_kc (t, r, m, z, N, ext, rx, L) I E 17 [none, none] [] [(511, r0)] [])), q_J g m_X14_forget d mc ms h0 [] Q k n (6, [some (.ref 520), some (.int v1)], [], q_hp (t, r, m, z, N, ext, rx, L) I E) := by
  intro fu
  induction fu with
  | zero =>
    intro I E v1 r0 hf hK0
    rw [f_X14_forget_L6] at hf
    cases hf
  | succ fu ih =>
    intro I E v1 r0 hf hK0
    rw [f_X14_forget_L6] at hf
    change q_J g m_X14_forget d mc ms h0 [] Q k n (q_kc (t, r, m, z, N, ext, rx, L) I E 6 [some (.ref 520), some (.int v1)] [] [] [])
    refine q_blf 2 [] (a := q_kc (t, r, m, z, N, ext, rx, L) I E 17 [some (.ref 520), some (.int v1)] [] [] []) (b := q_kc (t, r, m, z, N, ext, rx, L) I E 9 [some (.ref 520), some (.int v1)] [] [] []) (P := (136 : Int32) ≤ v1) ok_X14_forget rfl q_cn (fun h1 => ?_) (fun h1 => ?_)
    · have hf := q_ip h1 hf
      refine q_less (ls' := [none, none]) (q_sb1 (q_sb1 q_sb0)) ?_
      cases hf
      exact q_Jpad [511] [] rfl rfl hK0
    · have hf := q_in h1 hf
      obtain ⟨j2, hj2, hf⟩ := q_bd hf
      refine q_blk 8 [j2] (c' := q_kc (t, r, m, z, N, ext, rx, L) I E 6 [some (.ref 520), some (.int (v1 + 1))] [] [(511, (q_up (I 511) j2 (0 : Int32)))] []) ok_X14_forget rfl (q_cc hj2 q_cn) ?_
      exact ih (I := q_ws I [(511, (q_up (I 511) j2 (0 : Int32)))]) (E := q_ws E []) hf (q_Jmrg rfl rfl hK0)
set_option maxHeartbeats 4000000 in
theorem ct_X14_forget_520 {g : q_G} {t : Nat} {r : Nat} {m : Nat} {z : Nat} {N : Nat} {ext : Nat → q_Sh} {rx : Nat → Nat → Option Nat} {L : Nat → Nat → Int64} {d : Nat} (hd : 1 ≤ d)  {I : Nat → Nat → Int32} {E : Nat → Nat → Option Nat} {r0 : (Nat → Int32) × (Nat → Int32)} (hf : f_X14_forget (I 492) (I 511) = some r0) : q_Ct g m_X14_forget d 0 0 [] [.ref 520] (q_hp (t, r, m, z, N, ext, rx, L) I E) (fun o h' => o = .inl none ∧ h' = q_hp (t, r, m, z, N, ext, rx, L) (q_ws I [(492, r0.1), (511, r0.2)]) (q_ws E [])) := by
  rw [f_X14_forget] at hf
  refine q_Ct_of ok_X14_forget (Nat.le_of_ble_eq_true rfl) ?_ _ rfl rfl
  change q_J g m_X14_forget d 0 0 _ [] _ 0 0 (q_kc (t, r, m, z, N, ext, rx, L) I E 0 [some (.ref 520), none] [] [] [])
  refine q_blk 6 [] (c' := q_kc (t, r, m, z, N, ext, rx, L) I E 6 [some (.ref 520), some (.int (0 : Int32))] [] [(492, (q_up (I 492) 16 (0 : Int32)))] []) ok_X14_forget rfl q_cn ?_
  obtain ⟨r3, hr3, hf⟩ := q_bd hf
  refine lp_X14_forget_L6_520 (I := q_ws I [(492, (q_up (I 492) 16 (0 : Int32)))]) (E := q_ws E []) hd (Nat.le_of_ble_eq_true rfl) (Nat.le_of_ble_eq_true rfl) 4096 hr3 ?_
  refine q_Jmrg (lI' := [(492, (q_up (I 492) 16 (0 : Int32))), (511, r3)]) (lE' := []) rfl rfl ?_
  cases hf
  exact q_krv ok_X14_forget rfl rfl (Nat.le_of_ble_eq_true rfl) (Nat.le_of_ble_eq_true rfl) ⟨rfl, q_hpe (q_fin [492, 511] rfl) (q_fin [] rfl)⟩
set_option maxHeartbeats 4000000 in
theorem ct_X14_comeTo_520 {g : q_G} {t : Nat} {r : Nat} {m : Nat} {z : Nat} {N : Nat} {ext : Nat → q_Sh} {rx : Nat → Nat → Option Nat} {L : Nat → Nat → Int64} {d : Nat} (hd : 1 ≤ d)  {I : Nat → Nat → Int32} {E : Nat → Nat → Option Nat} {x1 : Int32} {r0 : (Nat → Int32) × (Nat → Int32) × (Nat → Int32)} (hf : f_X14_comeTo (I 492) (I 510) (I 511) x1 = some r0) : q_Ct g m_X14_comeTo d 0 0 [] [.ref 520, .int x1] (q_hp (t, r, m, z, N, ext, rx, L) I E) (fun o h' => o = .inl none ∧ h' = q_hp (t, r, m, z, N, ext, rx, L) (q_ws I [(492, r0.1), (510, r0.2.1), (511, r0.2.2)]) (q_ws E [])) := by
  rw [f_X14_comeTo] at hf
  refine q_Ct_of ok_X14_comeTo (Nat.le_of_ble_eq_true rfl) ?_ _ rfl rfl
  change q_J g m_X14_comeTo d 0 0 _ [] _ 0 0 (q_kc (t, r, m, z, N, ext, rx, L) I E 0 [some (.ref 520), some (.int x1)] [] [] [])
  refine q_blf 2 [] (a := q_kc (t, r, m, z, N, ext, rx, L) I E 9 [some (.ref 520), some (.int x1)] [] [] []) (b := q_kc (t, r, m, z, N, ext, rx, L) I E 3 [some (.ref 520), some (.int x1)] [] [] []) (P := x1 = (-1 : Int32)) ok_X14_comeTo rfl q_cn (fun h1 => ?_) (fun h1 => ?_)
  · have hf := q_ip h1 hf
    cases hf
    exact q_krv ok_X14_comeTo rfl rfl (Nat.le_of_ble_eq_true rfl) (Nat.le_of_ble_eq_true rfl) ⟨rfl, q_hpe (q_fin [492, 510, 511] rfl) (q_fin [] rfl)⟩
  · have hf := q_in h1 hf
    obtain ⟨j2, hj2, hf⟩ := q_bd hf
    refine q_blf 5 [j2] (a := q_kc (t, r, m, z, N, ext, rx, L) I E 10 [some (.ref 520), some (.int x1)] [] [] []) (b := q_kc (t, r, m, z, N, ext, rx, L) I E 9 [some (.ref 520), some (.int x1)] [] [] []) (P := ((I 511) j2) = 0) ok_X14_comeTo rfl (q_cc hj2 q_cn) (fun h3 => ?_) (fun h3 => ?_)
    · have hf := q_ip h3 hf
      obtain ⟨j4, hj4, hf⟩ := q_bd hf
      obtain ⟨j5, hj5, hf⟩ := q_bd hf
      refine q_blk 21 [j4, j5] (c' := q_kc (t, r, m, z, N, ext, rx, L) I E 31 [some (.ref 520), some (.int x1)] [] [(492, (q_up (I 492) 16 (((I 492) 16) + (1 : Int32)))), (510, (q_up (I 510) j5 x1)), (511, (q_up (I 511) j4 (1 : Int32)))] []) ok_X14_comeTo rfl (q_cc hj5 (q_cc hj4 q_cn)) ?_
      cases hf
      exact q_krv ok_X14_comeTo rfl rfl (Nat.le_of_ble_eq_true rfl) (Nat.le_of_ble_eq_true rfl) ⟨rfl, q_hpe (q_fin [492, 510, 511] rfl) (q_fin [] rfl)⟩
    · have hf := q_in h3 hf
      cases hf
      exact q_krv ok_X14_comeTo rfl rfl (Nat.le_of_ble_eq_true rfl) (Nat.le_of_ble_eq_true rfl) ⟨rfl, q_hpe (q_fin [492, 510, 511] rfl) (q_fin [] rfl)⟩
set_option maxHeartbeats 4000000 in
theorem lp_X14_at_L2_520 {g : q_G} {d mc ms : Nat} {h0 : q_H} {Q : (Option Value ⊕ String) → q_H → Prop} {k n : Nat} {t : Nat} {r : Nat} {m : Nat} {z : Nat} {N : Nat} {ext : Nat → q_Sh} {rx : Nat → Nat → Option Nat} {L : Nat → Nat → Int64} (hd : 1 ≤ d) (hk : k ≤ mc) (hn : n ≤ ms)  {v1 : Int32} {v2 : Int32} : ∀ (fu : Nat) {I : Nat → Nat → Int32} {E : Nat → Nat → Option Nat} {v3 : Int32} {r0 : Nat × Int32} (hf : f_X14_at_L2 (I 522) (I 523) (I 524) v1 v2 fu v3 = some r0) (hK0 : r0.1 = 0 → q_J g m_X14_at d mc ms h0 [] Q k n (q_kc (t, r, m, z, N, ext, rx, L) I E 32 [none, none, none, none] [] [] [])) (hK1 : r0.1 = 1 → q_J g m_X14_at d mc ms h0 [] Q k n (q_kc (t, r, m, z, N, ext, rx, L) I E 28 [none, none, none, some (.int r0.2)] [] [] [])), q_J g m_X14_at d mc ms h0 [] Q k n (2, [some (.ref 520), some (.int v1), some (.int v2), some (.int v3)], [], q_hp (t, r, m, z, N, ext, rx, L) I E) := by
  intro fu
  induction fu with
  | zero =>
    intro I E v3 r0 hf hK0 hK1
    rw [f_X14_at_L2] at hf
    cases hf
  | succ fu ih =>
    intro I E v3 r0 hf hK0 hK1
    rw [f_X14_at_L2] at hf
    change q_J g m_X14_at d mc ms h0 [] Q k n (q_kc (t, r, m, z, N, ext, rx, L) I E 2 [some (.ref 520), some (.int v1), some (.int v2), some (.int v3)] [] [] [])
    refine q_blf 2 [] (a := q_kc (t, r, m, z, N, ext, rx, L) I E 32 [some (.ref 520), some (.int v1), some (.int v2), some (.int v3)] [] [] []) (b := q_kc (t, r, m, z, N, ext, rx, L) I E 5 [some (.ref 520), some (.int v1), some (.int v2), some (.int v3)] [] [] []) (P := (136 : Int32) ≤ v3) ok_X14_at rfl q_cn (fun h1 => ?_) (fun h1 => ?_)
    · have hf := q_ip h1 hf
      refine q_less (ls' := [none, none, none, none]) (q_sb1 (q_sb1 (q_sb1 (q_sb1 q_sb0)))) ?_
      cases hf
      exact q_Jpad [] [] rfl rfl (hK0 rfl)
    · have hf := q_in h1 hf
      obtain ⟨j2, hj2, hf⟩ := q_bd hf
      refine q_blf 5 [j2] (a := q_kc (t, r, m, z, N, ext, rx, L) I E 30 [some (.ref 520), some (.int v1), some (.int v2), some (.int v3)] [] [] []) (b := q_kc (t, r, m, z, N, ext, rx, L) I E 11 [some (.ref 520), some (.int v1), some (.int v2), some (.int v3)] [] [] []) (P := ¬ ((I 522) j2) = v1) ok_X14_at rfl (q_cc hj2 q_cn) (fun h3 => ?_) (fun h3 => ?_)
      · have hf := q_ip h3 hf
        refine q_blk 2 [] (c' := q_kc (t, r, m, z, N, ext, rx, L) I E 2 [some (.ref 520), some (.int v1), some (.int v2), some (.int (v3 + 1))] [] [] []) ok_X14_at rfl q_cn ?_
        exact ih (I := q_ws I []) (E := q_ws E []) hf (fun hz => q_Jmrg rfl rfl (hK0 hz)) (fun hz => q_Jmrg rfl rfl (hK1 hz))
      · have hf := q_in h3 hf
        obtain ⟨j4, hj4, hf⟩ := q_bd hf
        refine q_blf 5 [j4] (a := q_kc (t, r, m, z, N, ext, rx, L) I E 30 [some (.ref 520), some (.int v1), some (.int v2), some (.int v3)] [] [] []) (b := q_kc (t, r, m, z, N, ext, rx, L) I E 17 [some (.ref 520), some (.int v1), some (.int v2), some (.int v3)] [] [] []) (P := v2 < ((I 523) j4)) ok_X14_at rfl (q_cc hj4 q_cn) (fun h5 => ?_) (fun h5 => ?_)
        · have hf := q_ip h5 hf
          refine q_blk 2 [] (c' := q_kc (t, r, m, z, N, ext, rx, L) I E 2 [some (.ref 520), some (.int v1), some (.int v2), some (.int (v3 + 1))] [] [] []) ok_X14_at rfl q_cn ?_
          exact ih (I := q_ws I []) (E := q_ws E []) hf (fun hz => q_Jmrg rfl rfl (hK0 hz)) (fun hz => q_Jmrg rfl rfl (hK1 hz))
        · have hf := q_in h5 hf
          obtain ⟨j6, hj6, hf⟩ := q_bd hf
          obtain ⟨j7, hj7, hf⟩ := q_bd hf
          refine q_blf 10 [j6, j7] (a := q_kc (t, r, m, z, N, ext, rx, L) I E 30 [some (.ref 520), some (.int v1), some (.int v2), some (.int v3)] [] [] []) (b := q_kc (t, r, m, z, N, ext, rx, L) I E 28 [some (.ref 520), some (.int v1), some (.int v2), some (.int v3)] [] [] []) (P := (((I 523) j6) + ((I 524) j7)) ≤ v2) ok_X14_at rfl (q_cc hj7 (q_cc hj6 q_cn)) (fun h8 => ?_) (fun h8 => ?_)
          · have hf := q_ip h8 hf
            refine q_blk 2 [] (c' := q_kc (t, r, m, z, N, ext, rx, L) I E 2 [some (.ref 520), some (.int v1), some (.int v2), some (.int (v3 + 1))] [] [] []) ok_X14_at rfl q_cn ?_
            exact ih (I := q_ws I []) (E := q_ws E []) hf (fun hz => q_Jmrg rfl rfl (hK0 hz)) (fun hz => q_Jmrg rfl rfl (hK1 hz))
          · have hf := q_in h8 hf
            refine q_less (ls' := [none, none, none, some (.int v3)]) (q_sb1 (q_sb1 (q_sb1 (q_sb2 q_sb0)))) ?_
            cases hf
            exact q_Jpad [] [] rfl rfl (hK1 rfl)
set_option maxHeartbeats 4000000 in
theorem ct_X14_at_520 {g : q_G} {t : Nat} {r : Nat} {m : Nat} {z : Nat} {N : Nat} {ext : Nat → q_Sh} {rx : Nat → Nat → Option Nat} {L : Nat → Nat → Int64} {d : Nat} (hd : 1 ≤ d)  {I : Nat → Nat → Int32} {E : Nat → Nat → Option Nat} {x1 : Int32} {x2 : Int32} {r0 : Int32} (hf : f_X14_at (I 522) (I 523) (I 524) x1 x2 = some r0) : q_Ct g m_X14_at d 0 0 [] [.ref 520, .int x1, .int x2] (q_hp (t, r, m, z, N, ext, rx, L) I E) (fun o h' => o = .inl (some (.int r0)) ∧ h' = q_hp (t, r, m, z, N, ext, rx, L) (q_ws I []) (q_ws E [])) := by
  rw [f_X14_at] at hf
  refine q_Ct_of ok_X14_at (Nat.le_of_ble_eq_true rfl) ?_ _ rfl rfl
  change q_J g m_X14_at d 0 0 _ [] _ 0 0 (q_kc (t, r, m, z, N, ext, rx, L) I E 0 [some (.ref 520), some (.int x1), some (.int x2), none] [] [] [])
  refine q_blk 2 [] (c' := q_kc (t, r, m, z, N, ext, rx, L) I E 2 [some (.ref 520), some (.int x1), some (.int x2), some (.int (0 : Int32))] [] [] []) ok_X14_at rfl q_cn ?_
  obtain ⟨r9, hr9, hf⟩ := q_bd hf
  refine lp_X14_at_L2_520 (I := q_ws I []) (E := q_ws E []) hd (Nat.le_of_ble_eq_true rfl) (Nat.le_of_ble_eq_true rfl) 4096 hr9 ?_ ?_
  · intro hz0
    have hf := q_ip hz0 hf
    refine q_Jmrg (lI' := []) (lE' := []) rfl rfl ?_
    refine q_blk 1 [] (c' := q_kc (t, r, m, z, N, ext, rx, L) I E 33 [none, none, none, none] [.int (-1 : Int32)] [] []) ok_X14_at rfl q_cn ?_
    cases hf
    exact q_kri ok_X14_at rfl rfl rfl (Nat.le_of_ble_eq_true rfl) (Nat.le_of_ble_eq_true rfl) ⟨rfl, q_hpe (q_fin [] rfl) (q_fin [] rfl)⟩
  · intro hz1
    have hf := q_in (fun h9 => absurd (hz1.symm.trans h9) (by decide)) hf
    refine q_Jmrg (lI' := []) (lE' := []) rfl rfl ?_
    refine q_blk 1 [] (c' := q_kc (t, r, m, z, N, ext, rx, L) I E 29 [none, none, none, some (.int r9.2)] [.int r9.2] [] []) ok_X14_at rfl q_cn ?_
    cases hf
    exact q_kri ok_X14_at rfl rfl rfl (Nat.le_of_ble_eq_true rfl) (Nat.le_of_ble_eq_true rfl) ⟨rfl, q_hpe (q_fin [] rfl) (q_fin [] rfl)⟩
set_option maxHeartbeats 4000000 in
theorem lp_X14_emptyFrom_L2_520 {g : q_G} {d mc ms : Nat} {h0 : q_H} {Q : (Option Value ⊕ String) → q_H → Prop} {k n : Nat} {t : Nat} {r : Nat} {m : Nat} {z : Nat} {N : Nat} {ext : Nat → q_Sh} {rx : Nat → Nat → Option Nat} {L : Nat → Nat → Int64} (hd : 2 ≤ d) (hk : k ≤ mc) (hn : n ≤ ms)  {v1 : Int32} : ∀ (fu : Nat) {I : Nat → Nat → Int32} {E : Nat → Nat → Option Nat} {v2 : Int32} {r0 : Int32} (hf : f_X14_emptyFrom_L2 (I 499) (I 522) (I 523) (I 524) v1 fu v2 = some r0) (hK0 : q_J g m_X14_emptyFrom d mc ms h0 [] Q k n (q_kc (t, r, m, z, N, ext, rx, L) I E 20 [none, none, some (.int r0)] [] [] [])), q_J g m_X14_emptyFrom d mc ms h0 [] Q k n (2, [some (.ref 520), some (.int v1), some (.int v2)], [], q_hp (t, r, m, z, N, ext, rx, L) I E) := by
  intro fu
  induction fu with
  | zero =>
    intro I E v2 r0 hf hK0
    rw [f_X14_emptyFrom_L2] at hf
    cases hf
  | succ fu ih =>
    intro I E v2 r0 hf hK0
    rw [f_X14_emptyFrom_L2] at hf
    change q_J g m_X14_emptyFrom d mc ms h0 [] Q k n (q_kc (t, r, m, z, N, ext, rx, L) I E 2 [some (.ref 520), some (.int v1), some (.int v2)] [] [] [])
    refine q_blf 7 [] (a := q_kc (t, r, m, z, N, ext, rx, L) I E 20 [some (.ref 520), some (.int v1), some (.int v2)] [] [] []) (b := q_kc (t, r, m, z, N, ext, rx, L) I E 10 [some (.ref 520), some (.int v1), some (.int v2)] [] [] []) (P := ((I 499) 2) ≤ (v1 + v2)) ok_X14_emptyFrom rfl q_cn (fun h1 => ?_) (fun h1 => ?_)
    · have hf := q_ip h1 hf
      refine q_less (ls' := [none, none, some (.int v2)]) (q_sb1 (q_sb1 (q_sb2 q_sb0))) ?_
      cases hf
      exact q_Jpad [] [] rfl rfl hK0
    · have hf := q_in h1 hf
      refine q_blk 5 [] (c' := q_kc (t, r, m, z, N, ext, rx, L) I E 15 [some (.ref 520), some (.int v1), some (.int v2)] [.int (v1 + v2), .int (2 : Int32), .ref 520] [] []) ok_X14_emptyFrom rfl q_cn ?_
      obtain ⟨r2, hr2, hf⟩ := q_bd hf
      refine q_kV (M2 := m_X14_at) (As := [.int (2 : Int32), .int (v1 + v2)]) (b := 520) (v2 := some (.int r2)) ok_X14_emptyFrom ok_X14_at cv_X14_at (ct_X14_at_520 (d := 1) (Nat.le_refl _) hr2) rfl rfl (Or.inl rfl) rfl rfl rfl rfl (Nat.le_trans (Nat.le_of_ble_eq_true rfl) hd) hk hn (Nat.le_of_ble_eq_true rfl) (fun x hx => absurd hx List.not_mem_nil) (q_nmL0 _) (q_nmS0 _) rfl (pos' := 16) (st' := [.int r2]) (lI' := []) (lE' := []) rfl rfl rfl rfl ?_
      refine q_blf 1 [] (a := q_kc (t, r, m, z, N, ext, rx, L) I E 20 [some (.ref 520), some (.int v1), some (.int v2)] [] [] []) (b := q_kc (t, r, m, z, N, ext, rx, L) I E 18 [some (.ref 520), some (.int v1), some (.int v2)] [] [] []) (P := ¬ r2 = (-1 : Int32)) ok_X14_emptyFrom rfl q_cn (fun h3 => ?_) (fun h3 => ?_)
      · have hf := q_ip h3 hf
        refine q_less (ls' := [none, none, some (.int v2)]) (q_sb1 (q_sb1 (q_sb2 q_sb0))) ?_
        cases hf
        exact q_Jpad [] [] rfl rfl hK0
      · have hf := q_in h3 hf
        refine q_blk 2 [] (c' := q_kc (t, r, m, z, N, ext, rx, L) I E 2 [some (.ref 520), some (.int v1), some (.int (v2 + 1))] [] [] []) ok_X14_emptyFrom rfl q_cn ?_
        exact ih (I := q_ws I []) (E := q_ws E []) hf (q_Jmrg rfl rfl hK0)
set_option maxHeartbeats 4000000 in
theorem ct_X14_emptyFrom_520 {g : q_G} {t : Nat} {r : Nat} {m : Nat} {z : Nat} {N : Nat} {ext : Nat → q_Sh} {rx : Nat → Nat → Option Nat} {L : Nat → Nat → Int64} {d : Nat} (hd : 2 ≤ d)  {I : Nat → Nat → Int32} {E : Nat → Nat → Option Nat} {x1 : Int32} {r0 : Int32} (hf : f_X14_emptyFrom (I 499) (I 522) (I 523) (I 524) x1 = some r0) : q_Ct g m_X14_emptyFrom d 0 0 [] [.ref 520, .int x1] (q_hp (t, r, m, z, N, ext, rx, L) I E) (fun o h' => o = .inl (some (.int r0)) ∧ h' = q_hp (t, r, m, z, N, ext, rx, L) (q_ws I []) (q_ws E [])) := by
  rw [f_X14_emptyFrom] at hf
  refine q_Ct_of ok_X14_emptyFrom (Nat.le_of_ble_eq_true rfl) ?_ _ rfl rfl
  change q_J g m_X14_emptyFrom d 0 0 _ [] _ 0 0 (q_kc (t, r, m, z, N, ext, rx, L) I E 0 [some (.ref 520), some (.int x1), none] [] [] [])
  refine q_blk 2 [] (c' := q_kc (t, r, m, z, N, ext, rx, L) I E 2 [some (.ref 520), some (.int x1), some (.int (0 : Int32))] [] [] []) ok_X14_emptyFrom rfl q_cn ?_
  obtain ⟨r4, hr4, hf⟩ := q_bd hf
  refine lp_X14_emptyFrom_L2_520 (I := q_ws I []) (E := q_ws E []) hd (Nat.le_of_ble_eq_true rfl) (Nat.le_of_ble_eq_true rfl) 4096 hr4 ?_
  refine q_Jmrg (lI' := []) (lE' := []) rfl rfl ?_
  refine q_blk 1 [] (c' := q_kc (t, r, m, z, N, ext, rx, L) I E 21 [none, none, some (.int r4)] [.int r4] [] []) ok_X14_emptyFrom rfl q_cn ?_
  cases hf
  exact q_kri ok_X14_emptyFrom rfl rfl rfl (Nat.le_of_ble_eq_true rfl) (Nat.le_of_ble_eq_true rfl) ⟨rfl, q_hpe (q_fin [] rfl) (q_fin [] rfl)⟩
set_option maxHeartbeats 4000000 in
theorem lp_X14_gapFor_L2_520 {g : q_G} {d mc ms : Nat} {h0 : q_H} {Q : (Option Value ⊕ String) → q_H → Prop} {k n : Nat} {t : Nat} {r : Nat} {m : Nat} {z : Nat} {N : Nat} {ext : Nat → q_Sh} {rx : Nat → Nat → Option Nat} {L : Nat → Nat → Int64} (hd : 3 ≤ d) (hk : k ≤ mc) (hn : n ≤ ms)  {v1 : Int32} : ∀ (fu : Nat) {I : Nat → Nat → Int32} {E : Nat → Nat → Option Nat} {v2 : Int32} {r0 : Nat × Int32} (hf : f_X14_gapFor_L2 (I 499) (I 522) (I 523) (I 524) v1 fu v2 = some r0) (hK0 : r0.1 = 0 → q_J g m_X14_gapFor d mc ms h0 [] Q k n (q_kc (t, r, m, z, N, ext, rx, L) I E 19 [none, none, none] [] [] [])) (hK1 : r0.1 = 1 → q_J g m_X14_gapFor d mc ms h0 [] Q k n (q_kc (t, r, m, z, N, ext, rx, L) I E 15 [none, none, some (.int r0.2)] [] [] [])), q_J g m_X14_gapFor d mc ms h0 [] Q k n (2, [some (.ref 520), some (.int v1), some (.int v2)], [], q_hp (t, r, m, z, N, ext, rx, L) I E) := by
  intro fu
  induction fu with
  | zero =>
    intro I E v2 r0 hf hK0 hK1
    rw [f_X14_gapFor_L2] at hf
    cases hf
  | succ fu ih =>
    intro I E v2 r0 hf hK0 hK1
    rw [f_X14_gapFor_L2] at hf
    change q_J g m_X14_gapFor d mc ms h0 [] Q k n (q_kc (t, r, m, z, N, ext, rx, L) I E 2 [some (.ref 520), some (.int v1), some (.int v2)] [] [] [])
    refine q_blf 7 [] (a := q_kc (t, r, m, z, N, ext, rx, L) I E 19 [some (.ref 520), some (.int v1), some (.int v2)] [] [] []) (b := q_kc (t, r, m, z, N, ext, rx, L) I E 10 [some (.ref 520), some (.int v1), some (.int v2)] [] [] []) (P := ((I 499) 2) < (v2 + v1)) ok_X14_gapFor rfl q_cn (fun h1 => ?_) (fun h1 => ?_)
    · have hf := q_ip h1 hf
      refine q_less (ls' := [none, none, none]) (q_sb1 (q_sb1 (q_sb1 q_sb0))) ?_
      cases hf
      exact q_Jpad [] [] rfl rfl (hK0 rfl)
    · have hf := q_in h1 hf
      refine q_blk 2 [] (c' := q_kc (t, r, m, z, N, ext, rx, L) I E 12 [some (.ref 520), some (.int v1), some (.int v2)] [.int v2, .ref 520] [] []) ok_X14_gapFor rfl q_cn ?_
      obtain ⟨r2, hr2, hf⟩ := q_bd hf
      refine q_kV (M2 := m_X14_emptyFrom) (As := [.int v2]) (b := 520) (v2 := some (.int r2)) ok_X14_gapFor ok_X14_emptyFrom cv_X14_emptyFrom (ct_X14_emptyFrom_520 (d := 2) (Nat.le_refl _) hr2) rfl rfl (Or.inl rfl) rfl rfl rfl rfl (Nat.le_trans (Nat.le_of_ble_eq_true rfl) hd) hk hn (Nat.le_of_ble_eq_true rfl) (fun x hx => absurd hx List.not_mem_nil) (q_nmL0 _) (q_nmS0 _) rfl (pos' := 13) (st' := [.int r2]) (lI' := []) (lE' := []) rfl rfl rfl rfl ?_
      refine q_blf 1 [] (a := q_kc (t, r, m, z, N, ext, rx, L) I E 17 [some (.ref 520), some (.int v1), some (.int v2)] [] [] []) (b := q_kc (t, r, m, z, N, ext, rx, L) I E 15 [some (.ref 520), some (.int v1), some (.int v2)] [] [] []) (P := r2 < v1) ok_X14_gapFor rfl q_cn (fun h3 => ?_) (fun h3 => ?_)
      · have hf := q_ip h3 hf
        refine q_blk 2 [] (c' := q_kc (t, r, m, z, N, ext, rx, L) I E 2 [some (.ref 520), some (.int v1), some (.int (v2 + 1))] [] [] []) ok_X14_gapFor rfl q_cn ?_
        exact ih (I := q_ws I []) (E := q_ws E []) hf (fun hz => q_Jmrg rfl rfl (hK0 hz)) (fun hz => q_Jmrg rfl rfl (hK1 hz))
      · have hf := q_in h3 hf
        refine q_less (ls' := [none, none, some (.int v2)]) (q_sb1 (q_sb1 (q_sb2 q_sb0))) ?_
        cases hf
        exact q_Jpad [] [] rfl rfl (hK1 rfl)
set_option maxHeartbeats 4000000 in
theorem ct_X14_gapFor_520 {g : q_G} {t : Nat} {r : Nat} {m : Nat} {z : Nat} {N : Nat} {ext : Nat → q_Sh} {rx : Nat → Nat → Option Nat} {L : Nat → Nat → Int64} {d : Nat} (hd : 3 ≤ d)  {I : Nat → Nat → Int32} {E : Nat → Nat → Option Nat} {x1 : Int32} {r0 : Int32} (hf : f_X14_gapFor (I 499) (I 522) (I 523) (I 524) x1 = some r0) : q_Ct g m_X14_gapFor d 0 0 [] [.ref 520, .int x1] (q_hp (t, r, m, z, N, ext, rx, L) I E) (fun o h' => o = .inl (some (.int r0)) ∧ h' = q_hp (t, r, m, z, N, ext, rx, L) (q_ws I []) (q_ws E [])) := by
  rw [f_X14_gapFor] at hf
  refine q_Ct_of ok_X14_gapFor (Nat.le_of_ble_eq_true rfl) ?_ _ rfl rfl
  change q_J g m_X14_gapFor d 0 0 _ [] _ 0 0 (q_kc (t, r, m, z, N, ext, rx, L) I E 0 [some (.ref 520), some (.int x1), none] [] [] [])
  refine q_blk 2 [] (c' := q_kc (t, r, m, z, N, ext, rx, L) I E 2 [some (.ref 520), some (.int x1), some (.int (0 : Int32))] [] [] []) ok_X14_gapFor rfl q_cn ?_
  obtain ⟨r4, hr4, hf⟩ := q_bd hf
  refine lp_X14_gapFor_L2_520 (I := q_ws I []) (E := q_ws E []) hd (Nat.le_of_ble_eq_true rfl) (Nat.le_of_ble_eq_true rfl) 4096 hr4 ?_ ?_
  · intro hz0
    have hf := q_ip hz0 hf
    refine q_Jmrg (lI' := []) (lE' := []) rfl rfl ?_
    refine q_blk 1 [] (c' := q_kc (t, r, m, z, N, ext, rx, L) I E 20 [none, none, none] [.int (-1 : Int32)] [] []) ok_X14_gapFor rfl q_cn ?_
    cases hf
    exact q_kri ok_X14_gapFor rfl rfl rfl (Nat.le_of_ble_eq_true rfl) (Nat.le_of_ble_eq_true rfl) ⟨rfl, q_hpe (q_fin [] rfl) (q_fin [] rfl)⟩
  · intro hz1
    have hf := q_in (fun h9 => absurd (hz1.symm.trans h9) (by decide)) hf
    refine q_Jmrg (lI' := []) (lE' := []) rfl rfl ?_
    refine q_blk 1 [] (c' := q_kc (t, r, m, z, N, ext, rx, L) I E 16 [none, none, some (.int r4.2)] [.int r4.2] [] []) ok_X14_gapFor rfl q_cn ?_
    cases hf
    exact q_kri ok_X14_gapFor rfl rfl rfl (Nat.le_of_ble_eq_true rfl) (Nat.le_of_ble_eq_true rfl) ⟨rfl, q_hpe (q_fin [] rfl) (q_fin [] rfl)⟩
set_option maxHeartbeats 4000000 in
theorem ct_X14_takeOver_520_529_O {g : q_G} {t : Nat} {r : Nat} {m : Nat} {z : Nat} {ext : Nat → q_Sh} {rx : Nat → Nat → Option Nat} {L : Nat → Nat → Int64} {d : Nat} (hd : 4 ≤ d)  {I : Nat → Nat → Int32} {E : Nat → Nat → Option Nat} {x1 : Int32} {x2 : Int32} {r0 : Int32 × (Nat → Int32) × (Nat → Int32) × (Nat → Int32) × (Nat → Int32) × (Nat → Int32) × (Nat → Int32) × (Nat → Int32)} (hf : f_X14_takeOver (I 492) (I 499) (I 510) (I 511) (I 520) (I 522) (I 523) (I 524) (I 526) (I 529) x1 x2 = some r0) : q_Ct g m_X14_takeOver d 0 0 [] [.ref 520, .int x1, .int x2, .ref 529] (q_hp (t, r, m, z, 530, (q_ur ext 529 (1, 0, 136)), rx, L) I E) (fun o h' => o = .inl (some (.int r0.1)) ∧ h' = q_hp (t, r, m, z, 530, (q_ur ext 529 (1, 0, 136)), rx, L) (q_ws I [(492, r0.2.1), (510, r0.2.2.1), (511, r0.2.2.2.1), (520, r0.2.2.2.2.1), (522, r0.2.2.2.2.2.1), (523, r0.2.2.2.2.2.2.1), (526, r0.2.2.2.2.2.2.2)]) (q_ws E [])) := by
  rw [f_X14_takeOver] at hf
  refine q_Ct_of ok_X14_takeOver (Nat.le_of_ble_eq_true rfl) ?_ _ rfl rfl
  change q_J g m_X14_takeOver d 0 0 _ [] _ 0 0 (q_kc (t, r, m, z, 530, (q_ur ext 529 (1, 0, 136)), rx, L) I E 0 [some (.ref 520), some (.int x1), some (.int x2), some (.ref 529), none] [] [] [])
  refine q_blf 2 [] (a := q_kc (t, r, m, z, 530, (q_ur ext 529 (1, 0, 136)), rx, L) I E 14 [some (.ref 520), some (.int x1), some (.int x2), some (.ref 529), none] [] [] []) (b := q_kc (t, r, m, z, 530, (q_ur ext 529 (1, 0, 136)), rx, L) I E 3 [some (.ref 520), some (.int x1), some (.int x2), some (.ref 529), none] [] [] []) (P := x1 = (-1 : Int32)) ok_X14_takeOver rfl q_cn (fun h1 => ?_) (fun h1 => ?_)
  · have hf := q_ip h1 hf
    refine q_blk 1 [] (c' := q_kc (t, r, m, z, 530, (q_ur ext 529 (1, 0, 136)), rx, L) I E 15 [some (.ref 520), some (.int x1), some (.int x2), some (.ref 529), none] [.int x2] [] []) ok_X14_takeOver rfl q_cn ?_
    cases hf
    exact q_kri ok_X14_takeOver rfl rfl rfl (Nat.le_of_ble_eq_true rfl) (Nat.le_of_ble_eq_true rfl) ⟨rfl, q_hpe (q_fin [492, 510, 511, 520, 522, 523, 526] rfl) (q_fin [] rfl)⟩
  · have hf := q_in h1 hf
    obtain ⟨j2, hj2, hf⟩ := q_bd hf
    refine q_blf 4 [j2] (a := q_kc (t, r, m, z, 530, (q_ur ext 529 (1, 0, 136)), rx, L) I E 14 [some (.ref 520), some (.int x1), some (.int x2), some (.ref 529), none] [] [] []) (b := q_kc (t, r, m, z, 530, (q_ur ext 529 (1, 0, 136)), rx, L) I E 8 [some (.ref 520), some (.int x1), some (.int x2), some (.ref 529), none] [] [] []) (P := ¬ ((I 529) j2) = (1 : Int32)) ok_X14_takeOver rfl (q_cc hj2 q_cn) (fun h3 => ?_) (fun h3 => ?_)
    · have hf := q_ip h3 hf
      refine q_blk 1 [] (c' := q_kc (t, r, m, z, 530, (q_ur ext 529 (1, 0, 136)), rx, L) I E 15 [some (.ref 520), some (.int x1), some (.int x2), some (.ref 529), none] [.int x2] [] []) ok_X14_takeOver rfl q_cn ?_
      cases hf
      exact q_kri ok_X14_takeOver rfl rfl rfl (Nat.le_of_ble_eq_true rfl) (Nat.le_of_ble_eq_true rfl) ⟨rfl, q_hpe (q_fin [492, 510, 511, 520, 522, 523, 526] rfl) (q_fin [] rfl)⟩
    · have hf := q_in h3 hf
      obtain ⟨j4, hj4, hf⟩ := q_bd hf
      refine q_blf 5 [j4] (a := q_kc (t, r, m, z, 530, (q_ur ext 529 (1, 0, 136)), rx, L) I E 16 [some (.ref 520), some (.int x1), some (.int x2), some (.ref 529), none] [] [] []) (b := q_kc (t, r, m, z, 530, (q_ur ext 529 (1, 0, 136)), rx, L) I E 14 [some (.ref 520), some (.int x1), some (.int x2), some (.ref 529), none] [] [] []) (P := ((I 511) j4) = 0) ok_X14_takeOver rfl (q_cc hj4 q_cn) (fun h5 => ?_) (fun h5 => ?_)
      · have hf := q_ip h5 hf
        refine q_blk 2 [] (c' := q_kc (t, r, m, z, 530, (q_ur ext 529 (1, 0, 136)), rx, L) I E 18 [some (.ref 520), some (.int x1), some (.int x2), some (.ref 529), none] [.int x1, .ref 520] [] []) ok_X14_takeOver rfl q_cn ?_
        obtain ⟨r6, hr6, hf⟩ := q_bd hf
        refine q_kV (M2 := m_X14_comeTo) (As := [.int x1]) (b := 520) (v2 := none) ok_X14_takeOver ok_X14_comeTo cv_X14_comeTo (ct_X14_comeTo_520 (d := 1) (Nat.le_refl _) hr6) rfl rfl (Or.inl rfl) rfl rfl rfl rfl (Nat.le_trans (Nat.le_of_ble_eq_true rfl) hd) (Nat.le_of_ble_eq_true rfl) (Nat.le_of_ble_eq_true rfl) (Nat.le_of_ble_eq_true rfl) (fun x hx => absurd hx List.not_mem_nil) (q_nmL0 _) (q_nmS0 _) rfl (pos' := 19) (st' := []) (lI' := [(492, r6.1), (510, r6.2.1), (511, r6.2.2)]) (lE' := []) rfl rfl rfl rfl ?_
        obtain ⟨j7, hj7, hf⟩ := q_bd hf
        refine q_blf 8 [j7] (a := q_kc (t, r, m, z, 530, (q_ur ext 529 (1, 0, 136)), rx, L) I E 35 [some (.ref 520), some (.int x1), some (.int x2), some (.ref 529), none] [] [(492, r6.1), (510, r6.2.1), (511, r6.2.2)] []) (b := q_kc (t, r, m, z, 530, (q_ur ext 529 (1, 0, 136)), rx, L) I E 28 [some (.ref 520), some (.int x1), some (.int x2), some (.ref 529), none] [] [(492, r6.1), (510, r6.2.1), (511, r6.2.2)] []) (P := ((I 526) j7) < ((I 499) 3)) ok_X14_takeOver rfl (q_cc hj7 q_cn) (fun h8 => ?_) (fun h8 => ?_)
        · have hf := q_ip h8 hf
          refine q_blf 4 [] (a := q_kc (t, r, m, z, 530, (q_ur ext 529 (1, 0, 136)), rx, L) I E 58 [some (.ref 520), some (.int x1), some (.int x2), some (.ref 529), some (.int (-1 : Int32))] [] [(492, r6.1), (510, r6.2.1), (511, r6.2.2)] []) (b := q_kc (t, r, m, z, 530, (q_ur ext 529 (1, 0, 136)), rx, L) I E 40 [some (.ref 520), some (.int x1), some (.int x2), some (.ref 529), some (.int (-1 : Int32))] [] [(492, r6.1), (510, r6.2.1), (511, r6.2.2)] []) (P := (-1 : Int32) = (-1 : Int32)) ok_X14_takeOver rfl q_cn (fun h9 => ?_) (fun h9 => ?_)
          · have hf := q_ip h9 hf
            obtain ⟨j10, hj10, hf⟩ := q_bd hf
            obtain ⟨j11, hj11, hf⟩ := q_bd hf
            obtain ⟨j12, hj12, hf⟩ := q_bd hf
            obtain ⟨j13, hj13, hf⟩ := q_bd hf
            obtain ⟨j14, hj14, hf⟩ := q_bd hf
            refine q_blk 24 [j10, j11, j12, j13, j14] (c' := q_kc (t, r, m, z, 530, (q_ur ext 529 (1, 0, 136)), rx, L) I E 82 [some (.ref 520), some (.int x1), some (.int x2), some (.ref 529), some (.int (-1 : Int32))] [.int (x2 + ((I 524) j14))] [(492, r6.1), (510, r6.2.1), (511, r6.2.2), (522, (q_up (I 522) j10 (1 : Int32))), (523, (q_up (I 523) j11 x2)), (526, (q_up (I 526) j13 (((I 526) j12) + (1 : Int32))))] []) ok_X14_takeOver rfl (q_cc hj14 (q_cc hj13 (q_cc hj12 (q_cc hj11 (q_cc hj10 q_cn))))) ?_
            cases hf
            exact q_kri ok_X14_takeOver rfl rfl rfl (Nat.le_of_ble_eq_true rfl) (Nat.le_of_ble_eq_true rfl) ⟨rfl, q_hpe (q_fin [492, 510, 511, 520, 522, 523, 526] rfl) (q_fin [] rfl)⟩
          · have hf := q_in h9 hf
            obtain ⟨j15, hj15, hf⟩ := q_bd hf
            obtain ⟨j16, hj16, hf⟩ := q_bd hf
            refine q_blk 17 [j15, j16] (c' := q_kc (t, r, m, z, 530, (q_ur ext 529 (1, 0, 136)), rx, L) I E 57 [some (.ref 520), some (.int x1), some (.int x2), some (.ref 529), some (.int (-1 : Int32))] [.int x2] [(492, r6.1), (510, r6.2.1), (511, r6.2.2), (520, (q_up (I 520) 4 (((I 520) 4) + (1 : Int32)))), (522, (q_up (I 522) j15 (2 : Int32))), (523, (q_up (I 523) j16 (-1 : Int32)))] []) ok_X14_takeOver rfl (q_cc hj16 (q_cc hj15 q_cn)) ?_
            cases hf
            exact q_kri ok_X14_takeOver rfl rfl rfl (Nat.le_of_ble_eq_true rfl) (Nat.le_of_ble_eq_true rfl) ⟨rfl, q_hpe (q_fin [492, 510, 511, 520, 522, 523, 526] rfl) (q_fin [] rfl)⟩
        · have hf := q_in h8 hf
          obtain ⟨j17, hj17, hf⟩ := q_bd hf
          refine q_blk 5 [j17] (c' := q_kc (t, r, m, z, 530, (q_ur ext 529 (1, 0, 136)), rx, L) I E 33 [some (.ref 520), some (.int x1), some (.int x2), some (.ref 529), none] [.int ((I 524) j17), .ref 520] [(492, r6.1), (510, r6.2.1), (511, r6.2.2)] []) ok_X14_takeOver rfl (q_cc hj17 q_cn) ?_
          obtain ⟨r18, hr18, hf⟩ := q_bd hf
          refine q_kV (M2 := m_X14_gapFor) (As := [.int ((I 524) j17)]) (b := 520) (v2 := some (.int r18)) ok_X14_takeOver ok_X14_gapFor cv_X14_gapFor (ct_X14_gapFor_520 (d := 3) (Nat.le_refl _) hr18) rfl rfl (Or.inl rfl) rfl rfl rfl rfl (Nat.le_trans (Nat.le_of_ble_eq_true rfl) hd) (Nat.le_of_ble_eq_true rfl) (Nat.le_of_ble_eq_true rfl) (Nat.le_of_ble_eq_true rfl) (fun x hx => absurd hx List.not_mem_nil) (q_nmL0 _) (q_nmS0 _) rfl (pos' := 34) (st' := [.int r18]) (lI' := [(492, r6.1), (510, r6.2.1), (511, r6.2.2)]) (lE' := []) rfl rfl rfl rfl ?_
          refine q_blf 4 [] (a := q_kc (t, r, m, z, 530, (q_ur ext 529 (1, 0, 136)), rx, L) I E 58 [some (.ref 520), some (.int x1), some (.int x2), some (.ref 529), some (.int r18)] [] [(492, r6.1), (510, r6.2.1), (511, r6.2.2)] []) (b := q_kc (t, r, m, z, 530, (q_ur ext 529 (1, 0, 136)), rx, L) I E 40 [some (.ref 520), some (.int x1), some (.int x2), some (.ref 529), some (.int r18)] [] [(492, r6.1), (510, r6.2.1), (511, r6.2.2)] []) (P := r18 = (-1 : Int32)) ok_X14_takeOver rfl q_cn (fun h19 => ?_) (fun h19 => ?_)
          · have hf := q_ip h19 hf
            obtain ⟨j20, hj20, hf⟩ := q_bd hf
            obtain ⟨j21, hj21, hf⟩ := q_bd hf
            obtain ⟨j22, hj22, hf⟩ := q_bd hf
            obtain ⟨j23, hj23, hf⟩ := q_bd hf
            obtain ⟨j24, hj24, hf⟩ := q_bd hf
            refine q_blk 24 [j20, j21, j22, j23, j24] (c' := q_kc (t, r, m, z, 530, (q_ur ext 529 (1, 0, 136)), rx, L) I E 82 [some (.ref 520), some (.int x1), some (.int x2), some (.ref 529), some (.int r18)] [.int (x2 + ((I 524) j24))] [(492, r6.1), (510, r6.2.1), (511, r6.2.2), (522, (q_up (I 522) j20 (1 : Int32))), (523, (q_up (I 523) j21 x2)), (526, (q_up (I 526) j23 (((I 526) j22) + (1 : Int32))))] []) ok_X14_takeOver rfl (q_cc hj24 (q_cc hj23 (q_cc hj22 (q_cc hj21 (q_cc hj20 q_cn))))) ?_
            cases hf
            exact q_kri ok_X14_takeOver rfl rfl rfl (Nat.le_of_ble_eq_true rfl) (Nat.le_of_ble_eq_true rfl) ⟨rfl, q_hpe (q_fin [492, 510, 511, 520, 522, 523, 526] rfl) (q_fin [] rfl)⟩
          · have hf := q_in h19 hf
            obtain ⟨j25, hj25, hf⟩ := q_bd hf
            obtain ⟨j26, hj26, hf⟩ := q_bd hf
            refine q_blk 17 [j25, j26] (c' := q_kc (t, r, m, z, 530, (q_ur ext 529 (1, 0, 136)), rx, L) I E 57 [some (.ref 520), some (.int x1), some (.int x2), some (.ref 529), some (.int r18)] [.int x2] [(492, r6.1), (510, r6.2.1), (511, r6.2.2), (520, (q_up (I 520) 4 (((I 520) 4) + (1 : Int32)))), (522, (q_up (I 522) j25 (2 : Int32))), (523, (q_up (I 523) j26 r18))] []) ok_X14_takeOver rfl (q_cc hj26 (q_cc hj25 q_cn)) ?_
            cases hf
            exact q_kri ok_X14_takeOver rfl rfl rfl (Nat.le_of_ble_eq_true rfl) (Nat.le_of_ble_eq_true rfl) ⟨rfl, q_hpe (q_fin [492, 510, 511, 520, 522, 523, 526] rfl) (q_fin [] rfl)⟩
      · have hf := q_in h5 hf
        refine q_blk 1 [] (c' := q_kc (t, r, m, z, 530, (q_ur ext 529 (1, 0, 136)), rx, L) I E 15 [some (.ref 520), some (.int x1), some (.int x2), some (.ref 529), none] [.int x2] [] []) ok_X14_takeOver rfl q_cn ?_
        cases hf
        exact q_kri ok_X14_takeOver rfl rfl rfl (Nat.le_of_ble_eq_true rfl) (Nat.le_of_ble_eq_true rfl) ⟨rfl, q_hpe (q_fin [492, 510, 511, 520, 522, 523, 526] rfl) (q_fin [] rfl)⟩
set_option maxHeartbeats 4000000 in
theorem lp_X14_takeRopes_L4_520_529_O {g : q_G} {d mc ms : Nat} {h0 : q_H} {Q : (Option Value ⊕ String) → q_H → Prop} {k n : Nat} {t : Nat} {r : Nat} {m : Nat} {z : Nat} {ext : Nat → q_Sh} {rx : Nat → Nat → Option Nat} {L : Nat → Nat → Int64} (hd : 5 ≤ d) (hk : k ≤ mc) (hn : n ≤ ms)  {v1 : Int32} : ∀ (fu : Nat) {I : Nat → Nat → Int32} {E : Nat → Nat → Option Nat} {v4 : Int32} {v5 : Int32} {r0 : Int32 × (Nat → Int32) × (Nat → Int32) × (Nat → Int32) × (Nat → Int32) × (Nat → Int32) × (Nat → Int32) × (Nat → Int32)} (hf : f_X14_takeRopes_L4 (I 499) (I 524) (I 525) (I 527) (I 529) v1 fu (I 492) (I 510) (I 511) (I 520) (I 522) (I 523) (I 526) v4 v5 = some r0) (hK0 : q_J g m_X14_takeRopes d mc ms h0 [] Q k n (q_kc (t, r, m, z, 530, (q_ur ext 529 (1, 0, 136)), rx, L) I E 25 [none, none, none, none, some (.int r0.1), none] [] [(492, r0.2.1), (510, r0.2.2.1), (511, r0.2.2.2.1), (520, r0.2.2.2.2.1), (522, r0.2.2.2.2.2.1), (523, r0.2.2.2.2.2.2.1), (526, r0.2.2.2.2.2.2.2)] [])), q_J g m_X14_takeRopes d mc ms h0 [] Q k n (4, [some (.ref 520), some (.int v1), none, some (.ref 529), some (.int v4), some (.int v5)], [], q_hp (t, r, m, z, 530, (q_ur ext 529 (1, 0, 136)), rx, L) I E) := by
  intro fu
  induction fu with
  | zero =>
    intro I E v4 v5 r0 hf hK0
    rw [f_X14_takeRopes_L4] at hf
    cases hf
  | succ fu ih =>
    intro I E v4 v5 r0 hf hK0
    rw [f_X14_takeRopes_L4] at hf
    change q_J g m_X14_takeRopes d mc ms h0 [] Q k n (q_kc (t, r, m, z, 530, (q_ur ext 529 (1, 0, 136)), rx, L) I E 4 [some (.ref 520), some (.int v1), none, some (.ref 529), some (.int v4), some (.int v5)] [] [] [])
    obtain ⟨j1, hj1, hf⟩ := q_bd hf
    refine q_blf 5 [j1] (a := q_kc (t, r, m, z, 530, (q_ur ext 529 (1, 0, 136)), rx, L) I E 25 [some (.ref 520), some (.int v1), none, some (.ref 529), some (.int v4), some (.int v5)] [] [] []) (b := q_kc (t, r, m, z, 530, (q_ur ext 529 (1, 0, 136)), rx, L) I E 10 [some (.ref 520), some (.int v1), none, some (.ref 529), some (.int v4), some (.int v5)] [] [] []) (P := ((I 525) j1) ≤ v5) ok_X14_takeRopes rfl (q_cc hj1 q_cn) (fun h2 => ?_) (fun h2 => ?_)
    · have hf := q_ip h2 hf
      refine q_less (ls' := [none, none, none, none, some (.int v4), none]) (q_sb1 (q_sb1 (q_sb1 (q_sb1 (q_sb2 (q_sb1 q_sb0)))))) ?_
      cases hf
      exact q_Jpad [492, 510, 511, 520, 522, 523, 526] [] rfl rfl hK0
    · have hf := q_in h2 hf
      obtain ⟨j3, hj3, hf⟩ := q_bd hf
      refine q_blk 11 [j3] (c' := q_kc (t, r, m, z, 530, (q_ur ext 529 (1, 0, 136)), rx, L) I E 21 [some (.ref 520), some (.int v1), none, some (.ref 529), some (.int v4), some (.int v5)] [.ref 529, .int v4, .int ((I 527) j3), .ref 520] [] []) ok_X14_takeRopes rfl (q_cc hj3 q_cn) ?_
      obtain ⟨r4, hr4, hf⟩ := q_bd hf
      refine q_kV (M2 := m_X14_takeOver) (As := [.int ((I 527) j3), .int v4, .ref 529]) (b := 520) (v2 := some (.int r4.1)) ok_X14_takeRopes ok_X14_takeOver cv_X14_takeOver (ct_X14_takeOver_520_529_O (d := 4) (Nat.le_refl _) hr4) rfl rfl (Or.inl rfl) rfl rfl rfl rfl (Nat.le_trans (Nat.le_of_ble_eq_true rfl) hd) hk hn (Nat.le_of_ble_eq_true rfl) (fun x hx => absurd hx List.not_mem_nil) (q_nmL0 _) (q_nmS0 _) rfl (pos' := 22) (st' := [.int r4.1]) (lI' := [(492, r4.2.1), (510, r4.2.2.1), (511, r4.2.2.2.1), (520, r4.2.2.2.2.1), (522, r4.2.2.2.2.2.1), (523, r4.2.2.2.2.2.2.1), (526, r4.2.2.2.2.2.2.2)]) (lE' := []) rfl rfl rfl rfl ?_
      refine q_blk 3 [] (c' := q_kc (t, r, m, z, 530, (q_ur ext 529 (1, 0, 136)), rx, L) I E 4 [some (.ref 520), some (.int v1), none, some (.ref 529), some (.int r4.1), some (.int (v5 + 1))] [] [(492, r4.2.1), (510, r4.2.2.1), (511, r4.2.2.2.1), (520, r4.2.2.2.2.1), (522, r4.2.2.2.2.2.1), (523, r4.2.2.2.2.2.2.1), (526, r4.2.2.2.2.2.2.2)] []) ok_X14_takeRopes rfl q_cn ?_
      exact ih (I := q_ws I [(492, r4.2.1), (510, r4.2.2.1), (511, r4.2.2.2.1), (520, r4.2.2.2.2.1), (522, r4.2.2.2.2.2.1), (523, r4.2.2.2.2.2.2.1), (526, r4.2.2.2.2.2.2.2)]) (E := q_ws E []) hf (q_Jmrg rfl rfl hK0)
set_option maxHeartbeats 4000000 in
theorem ct_X14_takeRopes_520_529_O {g : q_G} {t : Nat} {r : Nat} {m : Nat} {z : Nat} {ext : Nat → q_Sh} {rx : Nat → Nat → Option Nat} {L : Nat → Nat → Int64} {d : Nat} (hd : 5 ≤ d)  {I : Nat → Nat → Int32} {E : Nat → Nat → Option Nat} {x1 : Int32} {x2 : Int32} {r0 : Int32 × (Nat → Int32) × (Nat → Int32) × (Nat → Int32) × (Nat → Int32) × (Nat → Int32) × (Nat → Int32) × (Nat → Int32)} (hf : f_X14_takeRopes (I 492) (I 499) (I 510) (I 511) (I 520) (I 522) (I 523) (I 524) (I 525) (I 526) (I 527) (I 529) x1 x2 = some r0) : q_Ct g m_X14_takeRopes d 0 0 [] [.ref 520, .int x1, .int x2, .ref 529] (q_hp (t, r, m, z, 530, (q_ur ext 529 (1, 0, 136)), rx, L) I E) (fun o h' => o = .inl (some (.int r0.1)) ∧ h' = q_hp (t, r, m, z, 530, (q_ur ext 529 (1, 0, 136)), rx, L) (q_ws I [(492, r0.2.1), (510, r0.2.2.1), (511, r0.2.2.2.1), (520, r0.2.2.2.2.1), (522, r0.2.2.2.2.2.1), (523, r0.2.2.2.2.2.2.1), (526, r0.2.2.2.2.2.2.2)]) (q_ws E [])) := by
  rw [f_X14_takeRopes] at hf
  refine q_Ct_of ok_X14_takeRopes (Nat.le_of_ble_eq_true rfl) ?_ _ rfl rfl
  change q_J g m_X14_takeRopes d 0 0 _ [] _ 0 0 (q_kc (t, r, m, z, 530, (q_ur ext 529 (1, 0, 136)), rx, L) I E 0 [some (.ref 520), some (.int x1), some (.int x2), some (.ref 529), none, none] [] [] [])
  refine q_blk 4 [] (c' := q_kc (t, r, m, z, 530, (q_ur ext 529 (1, 0, 136)), rx, L) I E 4 [some (.ref 520), some (.int x1), some (.int x2), some (.ref 529), some (.int x2), some (.int (0 : Int32))] [] [] []) ok_X14_takeRopes rfl q_cn ?_
  refine q_less (ls' := [some (.ref 520), some (.int x1), none, some (.ref 529), some (.int x2), some (.int (0 : Int32))]) (q_sb2 (q_sb2 (q_sb1 (q_sb2 (q_sb2 (q_sb2 q_sb0)))))) ?_
  obtain ⟨r5, hr5, hf⟩ := q_bd hf
  refine lp_X14_takeRopes_L4_520_529_O (I := q_ws I []) (E := q_ws E []) hd (Nat.le_of_ble_eq_true rfl) (Nat.le_of_ble_eq_true rfl) 4096 hr5 ?_
  refine q_Jmrg (lI' := [(492, r5.2.1), (510, r5.2.2.1), (511, r5.2.2.2.1), (520, r5.2.2.2.2.1), (522, r5.2.2.2.2.2.1), (523, r5.2.2.2.2.2.2.1), (526, r5.2.2.2.2.2.2.2)]) (lE' := []) rfl rfl ?_
  refine q_blk 1 [] (c' := q_kc (t, r, m, z, 530, (q_ur ext 529 (1, 0, 136)), rx, L) I E 26 [none, none, none, none, some (.int r5.1), none] [.int r5.1] [(492, r5.2.1), (510, r5.2.2.1), (511, r5.2.2.2.1), (520, r5.2.2.2.2.1), (522, r5.2.2.2.2.2.1), (523, r5.2.2.2.2.2.2.1), (526, r5.2.2.2.2.2.2.2)] []) ok_X14_takeRopes rfl q_cn ?_
  cases hf
  exact q_kri ok_X14_takeRopes rfl rfl rfl (Nat.le_of_ble_eq_true rfl) (Nat.le_of_ble_eq_true rfl) ⟨rfl, q_hpe (q_fin [492, 510, 511, 520, 522, 523, 526] rfl) (q_fin [] rfl)⟩
set_option maxHeartbeats 4000000 in
theorem lp_X14_copyAll_L16_520 {g : q_G} {d mc ms : Nat} {h0 : q_H} {Q : (Option Value ⊕ String) → q_H → Prop} {k n : Nat} {t : Nat} {r : Nat} {m : Nat} {z : Nat} {ext : Nat → q_Sh} {rx : Nat → Nat → Option Nat} {L : Nat → Nat → Int64} (hd : 6 ≤ d) (hk : k ≤ mc) (hn : n ≤ ms)  {v2 : Int32} : ∀ (fu : Nat) {I : Nat → Nat → Int32} {E : Nat → Nat → Option Nat} {v3 : Int32} {r0 : (Nat → Int32)} (hf : f_X14_copyAll_L16 (I 529) fu (I 522) v3 = some r0) (hK0 : q_J g m_X14_copyAll d mc ms h0 [] Q k n (q_kc (t, r, m, z, 530, (q_ur ext 529 (1, 0, 136)), rx, L) I E 31 [some (.ref 520), some (.ref 529), some (.int v2), none, none, none] [] [(522, r0)] [])), q_J g m_X14_copyAll d mc ms h0 [] Q k n (16, [some (.ref 520), some (.ref 529), some (.int v2), some (.int v3), none, none], [], q_hp (t, r, m, z, 530, (q_ur ext 529 (1, 0, 136)), rx, L) I E) := by
  intro fu
  induction fu with
  | zero =>
    intro I E v3 r0 hf hK0
    rw [f_X14_copyAll_L16] at hf
    cases hf
  | succ fu ih =>
    intro I E v3 r0 hf hK0
    rw [f_X14_copyAll_L16] at hf
    change q_J g m_X14_copyAll d mc ms h0 [] Q k n (q_kc (t, r, m, z, 530, (q_ur ext 529 (1, 0, 136)), rx, L) I E 16 [some (.ref 520), some (.ref 529), some (.int v2), some (.int v3), none, none] [] [] [])
    refine q_blf 2 [] (a := q_kc (t, r, m, z, 530, (q_ur ext 529 (1, 0, 136)), rx, L) I E 31 [some (.ref 520), some (.ref 529), some (.int v2), some (.int v3), none, none] [] [] []) (b := q_kc (t, r, m, z, 530, (q_ur ext 529 (1, 0, 136)), rx, L) I E 19 [some (.ref 520), some (.ref 529), some (.int v2), some (.int v3), none, none] [] [] []) (P := (136 : Int32) ≤ v3) ok_X14_copyAll rfl q_cn (fun h1 => ?_) (fun h1 => ?_)
    · have hf := q_ip h1 hf
      refine q_less (ls' := [some (.ref 520), some (.ref 529), some (.int v2), none, none, none]) (q_sb2 (q_sb2 (q_sb2 (q_sb1 (q_sb1 (q_sb1 q_sb0)))))) ?_
      cases hf
      exact q_Jpad [522] [] rfl rfl hK0
    · have hf := q_in h1 hf
      obtain ⟨j2, hj2, hf⟩ := q_bd hf
      refine q_blf 4 [j2] (a := q_kc (t, r, m, z, 530, (q_ur ext 529 (1, 0, 136)), rx, L) I E 29 [some (.ref 520), some (.ref 529), some (.int v2), some (.int v3), none, none] [] [] []) (b := q_kc (t, r, m, z, 530, (q_ur ext 529 (1, 0, 136)), rx, L) I E 24 [some (.ref 520), some (.ref 529), some (.int v2), some (.int v3), none, none] [] [] []) (P := ¬ ((I 529) j2) = (1 : Int32)) ok_X14_copyAll rfl (q_cc hj2 q_cn) (fun h3 => ?_) (fun h3 => ?_)
      · have hf := q_ip h3 hf
        refine q_blk 2 [] (c' := q_kc (t, r, m, z, 530, (q_ur ext 529 (1, 0, 136)), rx, L) I E 16 [some (.ref 520), some (.ref 529), some (.int v2), some (.int (v3 + 1)), none, none] [] [] []) ok_X14_copyAll rfl q_cn ?_
        exact ih (I := q_ws I []) (E := q_ws E []) hf (q_Jmrg rfl rfl hK0)
      · have hf := q_in h3 hf
        obtain ⟨j4, hj4, hf⟩ := q_bd hf
        refine q_blk 7 [j4] (c' := q_kc (t, r, m, z, 530, (q_ur ext 529 (1, 0, 136)), rx, L) I E 16 [some (.ref 520), some (.ref 529), some (.int v2), some (.int (v3 + 1)), none, none] [] [(522, (q_up (I 522) j4 (0 : Int32)))] []) ok_X14_copyAll rfl (q_cc hj4 q_cn) ?_
        exact ih (I := q_ws I [(522, (q_up (I 522) j4 (0 : Int32)))]) (E := q_ws E []) hf (q_Jmrg rfl rfl hK0)
set_option maxHeartbeats 4000000 in
theorem lp_X14_copyAll_L88_520 {g : q_G} {d mc ms : Nat} {h0 : q_H} {Q : (Option Value ⊕ String) → q_H → Prop} {k n : Nat} {t : Nat} {r : Nat} {m : Nat} {z : Nat} {ext : Nat → q_Sh} {rx : Nat → Nat → Option Nat} {L : Nat → Nat → Int64} (hd : 6 ≤ d) (hk : k ≤ mc) (hn : n ≤ ms)  {v2 : Int32} : ∀ (fu : Nat) {I : Nat → Nat → Int32} {E : Nat → Nat → Option Nat} {v3 : Int32} {v4 : Int32} {r0 : (Nat → Int32) × (Nat → Int32) × (Nat → Int32) × (Nat → Int32) × (Nat → Int32) × (Nat → Int32) × (Nat → Int32)} (hf : f_X14_copyAll_L88 (I 499) (I 524) (I 525) (I 527) (I 529) fu (I 492) (I 510) (I 511) (I 520) (I 522) (I 523) (I 526) v3 v4 = some r0) (hK0 : q_J g m_X14_copyAll d mc ms h0 [] Q k n (q_kc (t, r, m, z, 530, (q_ur ext 529 (1, 0, 136)), rx, L) I E 105 [some (.ref 520), none, some (.int v2), none, none, none] [] [(492, r0.1), (510, r0.2.1), (511, r0.2.2.1), (520, r0.2.2.2.1), (522, r0.2.2.2.2.1), (523, r0.2.2.2.2.2.1), (526, r0.2.2.2.2.2.2)] [])), q_J g m_X14_copyAll d mc ms h0 [] Q k n (88, [some (.ref 520), some (.ref 529), some (.int v2), some (.int v3), some (.int v4), none], [], q_hp (t, r, m, z, 530, (q_ur ext 529 (1, 0, 136)), rx, L) I E) := by
  intro fu
  induction fu with
  | zero =>
    intro I E v3 v4 r0 hf hK0
    rw [f_X14_copyAll_L88] at hf
    cases hf
  | succ fu ih =>
    intro I E v3 v4 r0 hf hK0
    rw [f_X14_copyAll_L88] at hf
    change q_J g m_X14_copyAll d mc ms h0 [] Q k n (q_kc (t, r, m, z, 530, (q_ur ext 529 (1, 0, 136)), rx, L) I E 88 [some (.ref 520), some (.ref 529), some (.int v2), some (.int v3), some (.int v4), none] [] [] [])
    refine q_blf 4 [] (a := q_kc (t, r, m, z, 530, (q_ur ext 529 (1, 0, 136)), rx, L) I E 105 [some (.ref 520), some (.ref 529), some (.int v2), some (.int v3), some (.int v4), none] [] [] []) (b := q_kc (t, r, m, z, 530, (q_ur ext 529 (1, 0, 136)), rx, L) I E 93 [some (.ref 520), some (.ref 529), some (.int v2), some (.int v3), some (.int v4), none] [] [] []) (P := ((I 492) 16) ≤ v4) ok_X14_copyAll rfl q_cn (fun h5 => ?_) (fun h5 => ?_)
    · have hf := q_ip h5 hf
      refine q_less (ls' := [some (.ref 520), none, some (.int v2), none, none, none]) (q_sb2 (q_sb1 (q_sb2 (q_sb1 (q_sb1 (q_sb1 q_sb0)))))) ?_
      cases hf
      exact q_Jpad [492, 510, 511, 520, 522, 523, 526] [] rfl rfl hK0
    · have hf := q_in h5 hf
      obtain ⟨j6, hj6, hf⟩ := q_bd hf
      refine q_blk 8 [j6] (c' := q_kc (t, r, m, z, 530, (q_ur ext 529 (1, 0, 136)), rx, L) I E 101 [some (.ref 520), some (.ref 529), some (.int v2), some (.int v3), some (.int v4), none] [.ref 529, .int v3, .int ((I 510) j6), .ref 520] [] []) ok_X14_copyAll rfl (q_cc hj6 q_cn) ?_
      obtain ⟨r7, hr7, hf⟩ := q_bd hf
      refine q_kV (M2 := m_X14_takeRopes) (As := [.int ((I 510) j6), .int v3, .ref 529]) (b := 520) (v2 := some (.int r7.1)) ok_X14_copyAll ok_X14_takeRopes cv_X14_takeRopes (ct_X14_takeRopes_520_529_O (d := 5) (Nat.le_refl _) hr7) rfl rfl (Or.inl rfl) rfl rfl rfl rfl (Nat.le_trans (Nat.le_of_ble_eq_true rfl) hd) hk hn (Nat.le_of_ble_eq_true rfl) (fun x hx => absurd hx List.not_mem_nil) (q_nmL0 _) (q_nmS0 _) rfl (pos' := 102) (st' := [.int r7.1]) (lI' := [(492, r7.2.1), (510, r7.2.2.1), (511, r7.2.2.2.1), (520, r7.2.2.2.2.1), (522, r7.2.2.2.2.2.1), (523, r7.2.2.2.2.2.2.1), (526, r7.2.2.2.2.2.2.2)]) (lE' := []) rfl rfl rfl rfl ?_
      refine q_blk 3 [] (c' := q_kc (t, r, m, z, 530, (q_ur ext 529 (1, 0, 136)), rx, L) I E 88 [some (.ref 520), some (.ref 529), some (.int v2), some (.int r7.1), some (.int (v4 + 1)), none] [] [(492, r7.2.1), (510, r7.2.2.1), (511, r7.2.2.2.1), (520, r7.2.2.2.2.1), (522, r7.2.2.2.2.2.1), (523, r7.2.2.2.2.2.2.1), (526, r7.2.2.2.2.2.2.2)] []) ok_X14_copyAll rfl q_cn ?_
      exact ih (I := q_ws I [(492, r7.2.1), (510, r7.2.2.1), (511, r7.2.2.2.1), (520, r7.2.2.2.2.1), (522, r7.2.2.2.2.2.1), (523, r7.2.2.2.2.2.2.1), (526, r7.2.2.2.2.2.2.2)]) (E := q_ws E []) hf (q_Jmrg rfl rfl hK0)
set_option maxHeartbeats 4000000 in
theorem lp_X14_copyAll_L35_520 {g : q_G} {d mc ms : Nat} {h0 : q_H} {Q : (Option Value ⊕ String) → q_H → Prop} {k n : Nat} {t : Nat} {r : Nat} {m : Nat} {z : Nat} {ext : Nat → q_Sh} {rx : Nat → Nat → Option Nat} {L : Nat → Nat → Int64} (hd : 6 ≤ d) (hk : k ≤ mc) (hn : n ≤ ms)  {v2 : Int32} : ∀ (fu : Nat) {I : Nat → Nat → Int32} {E : Nat → Nat → Option Nat} {v3 : Int32} {v4 : Int32} {r0 : Int32 × (Nat → Int32) × (Nat → Int32) × (Nat → Int32) × (Nat → Int32) × (Nat → Int32) × (Nat → Int32) × (Nat → Int32)} (hf : f_X14_copyAll_L35 (I 499) (I 521) (I 524) (I 529) fu (I 492) (I 510) (I 511) (I 520) (I 522) (I 523) (I 526) v3 v4 = some r0) (hK0 : q_J g m_X14_copyAll d mc ms h0 [] Q k n (q_kc (t, r, m, z, 530, (q_ur ext 529 (1, 0, 136)), rx, L) I E 52 [some (.ref 520), some (.ref 529), some (.int v2), some (.int r0.1), none, none] [] [(492, r0.2.1), (510, r0.2.2.1), (511, r0.2.2.2.1), (520, r0.2.2.2.2.1), (522, r0.2.2.2.2.2.1), (523, r0.2.2.2.2.2.2.1), (526, r0.2.2.2.2.2.2.2)] [])), q_J g m_X14_copyAll d mc ms h0 [] Q k n (35, [some (.ref 520), some (.ref 529), some (.int v2), some (.int v3), some (.int v4), none], [], q_hp (t, r, m, z, 530, (q_ur ext 529 (1, 0, 136)), rx, L) I E) := by
  intro fu
  induction fu with
  | zero =>
    intro I E v3 v4 r0 hf hK0
    rw [f_X14_copyAll_L35] at hf
    cases hf
  | succ fu ih =>
    intro I E v3 v4 r0 hf hK0
    rw [f_X14_copyAll_L35] at hf
    change q_J g m_X14_copyAll d mc ms h0 [] Q k n (q_kc (t, r, m, z, 530, (q_ur ext 529 (1, 0, 136)), rx, L) I E 35 [some (.ref 520), some (.ref 529), some (.int v2), some (.int v3), some (.int v4), none] [] [] [])
    refine q_blf 5 [] (a := q_kc (t, r, m, z, 530, (q_ur ext 529 (1, 0, 136)), rx, L) I E 52 [some (.ref 520), some (.ref 529), some (.int v2), some (.int v3), some (.int v4), none] [] [] []) (b := q_kc (t, r, m, z, 530, (q_ur ext 529 (1, 0, 136)), rx, L) I E 41 [some (.ref 520), some (.ref 529), some (.int v2), some (.int v3), some (.int v4), none] [] [] []) (P := ((I 499) 0) ≤ v4) ok_X14_copyAll rfl q_cn (fun h8 => ?_) (fun h8 => ?_)
    · have hf := q_ip h8 hf
      refine q_less (ls' := [some (.ref 520), some (.ref 529), some (.int v2), some (.int v3), none, none]) (q_sb2 (q_sb2 (q_sb2 (q_sb2 (q_sb1 (q_sb1 q_sb0)))))) ?_
      cases hf
      exact q_Jpad [492, 510, 511, 520, 522, 523, 526] [] rfl rfl hK0
    · have hf := q_in h8 hf
      obtain ⟨j9, hj9, hf⟩ := q_bd hf
      refine q_blk 7 [j9] (c' := q_kc (t, r, m, z, 530, (q_ur ext 529 (1, 0, 136)), rx, L) I E 48 [some (.ref 520), some (.ref 529), some (.int v2), some (.int v3), some (.int v4), none] [.ref 529, .int v3, .int ((I 521) j9), .ref 520] [] []) ok_X14_copyAll rfl (q_cc hj9 q_cn) ?_
      obtain ⟨r10, hr10, hf⟩ := q_bd hf
      refine q_kV (M2 := m_X14_takeOver) (As := [.int ((I 521) j9), .int v3, .ref 529]) (b := 520) (v2 := some (.int r10.1)) ok_X14_copyAll ok_X14_takeOver cv_X14_takeOver (ct_X14_takeOver_520_529_O (d := 4) (Nat.le_refl _) hr10) rfl rfl (Or.inl rfl) rfl rfl rfl rfl (Nat.le_trans (Nat.le_of_ble_eq_true rfl) hd) hk hn (Nat.le_of_ble_eq_true rfl) (fun x hx => absurd hx List.not_mem_nil) (q_nmL0 _) (q_nmS0 _) rfl (pos' := 49) (st' := [.int r10.1]) (lI' := [(492, r10.2.1), (510, r10.2.2.1), (511, r10.2.2.2.1), (520, r10.2.2.2.2.1), (522, r10.2.2.2.2.2.1), (523, r10.2.2.2.2.2.2.1), (526, r10.2.2.2.2.2.2.2)]) (lE' := []) rfl rfl rfl rfl ?_
      refine q_blk 3 [] (c' := q_kc (t, r, m, z, 530, (q_ur ext 529 (1, 0, 136)), rx, L) I E 35 [some (.ref 520), some (.ref 529), some (.int v2), some (.int r10.1), some (.int (v4 + 1)), none] [] [(492, r10.2.1), (510, r10.2.2.1), (511, r10.2.2.2.1), (520, r10.2.2.2.2.1), (522, r10.2.2.2.2.2.1), (523, r10.2.2.2.2.2.2.1), (526, r10.2.2.2.2.2.2.2)] []) ok_X14_copyAll rfl q_cn ?_
      exact ih (I := q_ws I [(492, r10.2.1), (510, r10.2.2.1), (511, r10.2.2.2.1), (520, r10.2.2.2.2.1), (522, r10.2.2.2.2.2.1), (523, r10.2.2.2.2.2.2.1), (526, r10.2.2.2.2.2.2.2)]) (E := q_ws E []) hf (q_Jmrg rfl rfl hK0)
set_option maxHeartbeats 4000000 in
theorem lp_X14_copyAll_L62_520 {g : q_G} {d mc ms : Nat} {h0 : q_H} {Q : (Option Value ⊕ String) → q_H → Prop} {k n : Nat} {t : Nat} {r : Nat} {m : Nat} {z : Nat} {ext : Nat → q_Sh} {rx : Nat → Nat → Option Nat} {L : Nat → Nat → Int64} (hd : 6 ≤ d) (hk : k ≤ mc) (hn : n ≤ ms)  {v2 : Int32} {v4 : Int32} : ∀ (fu : Nat) {I : Nat → Nat → Int32} {E : Nat → Nat → Option Nat} {v3 : Int32} {v5 : Int32} {r0 : Int32 × (Nat → Int32) × (Nat → Int32) × (Nat → Int32) × (Nat → Int32) × (Nat → Int32) × (Nat → Int32) × (Nat → Int32)} (hf : f_X14_copyAll_L62 (I 499) (I 524) (I 525) (I 527) (I 529) v4 fu (I 492) (I 510) (I 511) (I 520) (I 522) (I 523) (I 526) v3 v5 = some r0) (hK0 : q_J g m_X14_copyAll d mc ms h0 [] Q k n (q_kc (t, r, m, z, 530, (q_ur ext 529 (1, 0, 136)), rx, L) I E 84 [some (.ref 520), some (.ref 529), some (.int v2), some (.int r0.1), some (.int v4), none] [] [(492, r0.2.1), (510, r0.2.2.1), (511, r0.2.2.2.1), (520, r0.2.2.2.2.1), (522, r0.2.2.2.2.2.1), (523, r0.2.2.2.2.2.2.1), (526, r0.2.2.2.2.2.2.2)] [])), q_J g m_X14_copyAll d mc ms h0 [] Q k n (62, [some (.ref 520), some (.ref 529), some (.int v2), some (.int v3), some (.int v4), some (.int v5)], [], q_hp (t, r, m, z, 530, (q_ur ext 529 (1, 0, 136)), rx, L) I E) := by
  intro fu
  induction fu with
  | zero =>
    intro I E v3 v5 r0 hf hK0
    rw [f_X14_copyAll_L62] at hf
    cases hf
  | succ fu ih =>
    intro I E v3 v5 r0 hf hK0
    rw [f_X14_copyAll_L62] at hf
    change q_J g m_X14_copyAll d mc ms h0 [] Q k n (q_kc (t, r, m, z, 530, (q_ur ext 529 (1, 0, 136)), rx, L) I E 62 [some (.ref 520), some (.ref 529), some (.int v2), some (.int v3), some (.int v4), some (.int v5)] [] [] [])
    refine q_blf 2 [] (a := q_kc (t, r, m, z, 530, (q_ur ext 529 (1, 0, 136)), rx, L) I E 84 [some (.ref 520), some (.ref 529), some (.int v2), some (.int v3), some (.int v4), some (.int v5)] [] [] []) (b := q_kc (t, r, m, z, 530, (q_ur ext 529 (1, 0, 136)), rx, L) I E 65 [some (.ref 520), some (.ref 529), some (.int v2), some (.int v3), some (.int v4), some (.int v5)] [] [] []) (P := (136 : Int32) ≤ v5) ok_X14_copyAll rfl q_cn (fun h11 => ?_) (fun h11 => ?_)
    · have hf := q_ip h11 hf
      refine q_less (ls' := [some (.ref 520), some (.ref 529), some (.int v2), some (.int v3), some (.int v4), none]) (q_sb2 (q_sb2 (q_sb2 (q_sb2 (q_sb2 (q_sb1 q_sb0)))))) ?_
      cases hf
      exact q_Jpad [492, 510, 511, 520, 522, 523, 526] [] rfl rfl hK0
    · have hf := q_in h11 hf
      obtain ⟨j12, hj12, hf⟩ := q_bd hf
      refine q_blf 4 [j12] (a := q_kc (t, r, m, z, 530, (q_ur ext 529 (1, 0, 136)), rx, L) I E 82 [some (.ref 520), some (.ref 529), some (.int v2), some (.int v3), some (.int v4), some (.int v5)] [] [] []) (b := q_kc (t, r, m, z, 530, (q_ur ext 529 (1, 0, 136)), rx, L) I E 70 [some (.ref 520), some (.ref 529), some (.int v2), some (.int v3), some (.int v4), some (.int v5)] [] [] []) (P := ¬ ((I 529) j12) = (2 : Int32)) ok_X14_copyAll rfl (q_cc hj12 q_cn) (fun h13 => ?_) (fun h13 => ?_)
      · have hf := q_ip h13 hf
        refine q_blk 2 [] (c' := q_kc (t, r, m, z, 530, (q_ur ext 529 (1, 0, 136)), rx, L) I E 62 [some (.ref 520), some (.ref 529), some (.int v2), some (.int v3), some (.int v4), some (.int (v5 + 1))] [] [] []) ok_X14_copyAll rfl q_cn ?_
        exact ih (I := q_ws I []) (E := q_ws E []) hf (q_Jmrg rfl rfl hK0)
      · have hf := q_in h13 hf
        obtain ⟨j14, hj14, hf⟩ := q_bd hf
        refine q_blf 5 [j14] (a := q_kc (t, r, m, z, 530, (q_ur ext 529 (1, 0, 136)), rx, L) I E 82 [some (.ref 520), some (.ref 529), some (.int v2), some (.int v3), some (.int v4), some (.int v5)] [] [] []) (b := q_kc (t, r, m, z, 530, (q_ur ext 529 (1, 0, 136)), rx, L) I E 76 [some (.ref 520), some (.ref 529), some (.int v2), some (.int v3), some (.int v4), some (.int v5)] [] [] []) (P := ¬ ((I 523) j14) = v4) ok_X14_copyAll rfl (q_cc hj14 q_cn) (fun h15 => ?_) (fun h15 => ?_)
        · have hf := q_ip h15 hf
          refine q_blk 2 [] (c' := q_kc (t, r, m, z, 530, (q_ur ext 529 (1, 0, 136)), rx, L) I E 62 [some (.ref 520), some (.ref 529), some (.int v2), some (.int v3), some (.int v4), some (.int (v5 + 1))] [] [] []) ok_X14_copyAll rfl q_cn ?_
          exact ih (I := q_ws I []) (E := q_ws E []) hf (q_Jmrg rfl rfl hK0)
        · have hf := q_in h15 hf
          refine q_blk 4 [] (c' := q_kc (t, r, m, z, 530, (q_ur ext 529 (1, 0, 136)), rx, L) I E 80 [some (.ref 520), some (.ref 529), some (.int v2), some (.int v3), some (.int v4), some (.int v5)] [.ref 529, .int v3, .int v5, .ref 520] [] []) ok_X14_copyAll rfl q_cn ?_
          obtain ⟨r16, hr16, hf⟩ := q_bd hf
          refine q_kV (M2 := m_X14_takeRopes) (As := [.int v5, .int v3, .ref 529]) (b := 520) (v2 := some (.int r16.1)) ok_X14_copyAll ok_X14_takeRopes cv_X14_takeRopes (ct_X14_takeRopes_520_529_O (d := 5) (Nat.le_refl _) hr16) rfl rfl (Or.inl rfl) rfl rfl rfl rfl (Nat.le_trans (Nat.le_of_ble_eq_true rfl) hd) hk hn (Nat.le_of_ble_eq_true rfl) (fun x hx => absurd hx List.not_mem_nil) (q_nmL0 _) (q_nmS0 _) rfl (pos' := 81) (st' := [.int r16.1]) (lI' := [(492, r16.2.1), (510, r16.2.2.1), (511, r16.2.2.2.1), (520, r16.2.2.2.2.1), (522, r16.2.2.2.2.2.1), (523, r16.2.2.2.2.2.2.1), (526, r16.2.2.2.2.2.2.2)]) (lE' := []) rfl rfl rfl rfl ?_
          refine q_blk 3 [] (c' := q_kc (t, r, m, z, 530, (q_ur ext 529 (1, 0, 136)), rx, L) I E 62 [some (.ref 520), some (.ref 529), some (.int v2), some (.int r16.1), some (.int v4), some (.int (v5 + 1))] [] [(492, r16.2.1), (510, r16.2.2.1), (511, r16.2.2.2.1), (520, r16.2.2.2.2.1), (522, r16.2.2.2.2.2.1), (523, r16.2.2.2.2.2.2.1), (526, r16.2.2.2.2.2.2.2)] []) ok_X14_copyAll rfl q_cn ?_
          exact ih (I := q_ws I [(492, r16.2.1), (510, r16.2.2.1), (511, r16.2.2.2.1), (520, r16.2.2.2.2.1), (522, r16.2.2.2.2.2.1), (523, r16.2.2.2.2.2.2.1), (526, r16.2.2.2.2.2.2.2)]) (E := q_ws E []) hf (q_Jmrg rfl rfl hK0)
set_option maxHeartbeats 4000000 in
theorem lp_X14_copyAll_L54_520 {g : q_G} {d mc ms : Nat} {h0 : q_H} {Q : (Option Value ⊕ String) → q_H → Prop} {k n : Nat} {t : Nat} {r : Nat} {m : Nat} {z : Nat} {ext : Nat → q_Sh} {rx : Nat → Nat → Option Nat} {L : Nat → Nat → Int64} (hd : 6 ≤ d) (hk : k ≤ mc) (hn : n ≤ ms)  {v2 : Int32} : ∀ (fu : Nat) {I : Nat → Nat → Int32} {E : Nat → Nat → Option Nat} {v3 : Int32} {v4 : Int32} {r0 : Int32 × (Nat → Int32) × (Nat → Int32) × (Nat → Int32) × (Nat → Int32) × (Nat → Int32) × (Nat → Int32) × (Nat → Int32)} (hf : f_X14_copyAll_L54 (I 499) (I 524) (I 525) (I 527) (I 529) fu (I 492) (I 510) (I 511) (I 520) (I 522) (I 523) (I 526) v3 v4 = some r0) (hK0 : q_J g m_X14_copyAll d mc ms h0 [] Q k n (q_kc (t, r, m, z, 530, (q_ur ext 529 (1, 0, 136)), rx, L) I E 86 [some (.ref 520), some (.ref 529), some (.int v2), some (.int r0.1), none, none] [] [(492, r0.2.1), (510, r0.2.2.1), (511, r0.2.2.2.1), (520, r0.2.2.2.2.1), (522, r0.2.2.2.2.2.1), (523, r0.2.2.2.2.2.2.1), (526, r0.2.2.2.2.2.2.2)] [])), q_J g m_X14_copyAll d mc ms h0 [] Q k n (54, [some (.ref 520), some (.ref 529), some (.int v2), some (.int v3), some (.int v4), none], [], q_hp (t, r, m, z, 530, (q_ur ext 529 (1, 0, 136)), rx, L) I E) := by
  intro fu
  induction fu with
  | zero =>
    intro I E v3 v4 r0 hf hK0
    rw [f_X14_copyAll_L54] at hf
    cases hf
  | succ fu ih =>
    intro I E v3 v4 r0 hf hK0
    rw [f_X14_copyAll_L54] at hf
    change q_J g m_X14_copyAll d mc ms h0 [] Q k n (q_kc (t, r, m, z, 530, (q_ur ext 529 (1, 0, 136)), rx, L) I E 54 [some (.ref 520), some (.ref 529), some (.int v2), some (.int v3), some (.int v4), none] [] [] [])
    refine q_blf 5 [] (a := q_kc (t, r, m, z, 530, (q_ur ext 529 (1, 0, 136)), rx, L) I E 86 [some (.ref 520), some (.ref 529), some (.int v2), some (.int v3), some (.int v4), none] [] [] []) (b := q_kc (t, r, m, z, 530, (q_ur ext 529 (1, 0, 136)), rx, L) I E 60 [some (.ref 520), some (.ref 529), some (.int v2), some (.int v3), some (.int v4), none] [] [] []) (P := ((I 499) 2) ≤ v4) ok_X14_copyAll rfl q_cn (fun h17 => ?_) (fun h17 => ?_)
    · have hf := q_ip h17 hf
      refine q_less (ls' := [some (.ref 520), some (.ref 529), some (.int v2), some (.int v3), none, none]) (q_sb2 (q_sb2 (q_sb2 (q_sb2 (q_sb1 (q_sb1 q_sb0)))))) ?_
      cases hf
      exact q_Jpad [492, 510, 511, 520, 522, 523, 526] [] rfl rfl hK0
    · have hf := q_in h17 hf
      refine q_blk 2 [] (c' := q_kc (t, r, m, z, 530, (q_ur ext 529 (1, 0, 136)), rx, L) I E 62 [some (.ref 520), some (.ref 529), some (.int v2), some (.int v3), some (.int v4), some (.int (0 : Int32))] [] [] []) ok_X14_copyAll rfl q_cn ?_
      obtain ⟨r18, hr18, hf⟩ := q_bd hf
      refine lp_X14_copyAll_L62_520 (I := q_ws I []) (E := q_ws E []) hd hk hn 4096 hr18 ?_
      refine q_Jmrg (lI' := [(492, r18.2.1), (510, r18.2.2.1), (511, r18.2.2.2.1), (520, r18.2.2.2.2.1), (522, r18.2.2.2.2.2.1), (523, r18.2.2.2.2.2.2.1), (526, r18.2.2.2.2.2.2.2)]) (lE' := []) rfl rfl ?_
      refine q_blk 2 [] (c' := q_kc (t, r, m, z, 530, (q_ur ext 529 (1, 0, 136)), rx, L) I E 54 [some (.ref 520), some (.ref 529), some (.int v2), some (.int r18.1), some (.int (v4 + 1)), none] [] [(492, r18.2.1), (510, r18.2.2.1), (511, r18.2.2.2.1), (520, r18.2.2.2.2.1), (522, r18.2.2.2.2.2.1), (523, r18.2.2.2.2.2.2.1), (526, r18.2.2.2.2.2.2.2)] []) ok_X14_copyAll rfl q_cn ?_
      exact ih (I := q_ws I [(492, r18.2.1), (510, r18.2.2.1), (511, r18.2.2.2.1), (520, r18.2.2.2.2.1), (522, r18.2.2.2.2.2.1), (523, r18.2.2.2.2.2.2.1), (526, r18.2.2.2.2.2.2.2)]) (E := q_ws E []) hf (q_Jmrg rfl rfl hK0)
set_option maxHeartbeats 4000000 in
theorem ct_X14_copyAll_520 {g : q_G} {t : Nat} {r : Nat} {m : Nat} {ext : Nat → q_Sh} {rx : Nat → Nat → Option Nat} {L : Nat → Nat → Int64} {d : Nat} (hd : 6 ≤ d)  {I : Nat → Nat → Int32} {E : Nat → Nat → Option Nat} {r0 : Int32 × (Nat → Int32) × (Nat → Int32) × (Nat → Int32) × (Nat → Int32) × (Nat → Int32) × (Nat → Int32) × (Nat → Int32)} (hf : f_X14_copyAll (I 492) (I 499) (I 510) (I 511) (I 520) (I 521) (I 522) (I 523) (I 524) (I 525) (I 526) (I 527) = some r0) : q_Ct g m_X14_copyAll d 1 136 [] [.ref 520] (q_hp (t, r, m, 499, 529, ext, rx, L) I E) (fun o h' => o = .inl (some (.int r0.1)) ∧ h' = q_hp (t, r, m, 499, 529, ext, rx, L) (q_ws I [(492, r0.2.1), (510, r0.2.2.1), (511, r0.2.2.2.1), (520, r0.2.2.2.2.1), (522, r0.2.2.2.2.2.1), (523, r0.2.2.2.2.2.2.1), (526, r0.2.2.2.2.2.2.2)]) (q_ws E [])) := by
  rw [f_X14_copyAll] at hf
  refine q_Ct_of ok_X14_copyAll (Nat.le_of_ble_eq_true rfl) ?_ _ rfl rfl
  change q_J g m_X14_copyAll d 1 136 _ [] _ 0 0 (q_kc (t, r, m, 499, 529, ext, rx, L) I E 0 [some (.ref 520), none, none, none, none, none] [] [] [])
  refine q_clo_J (fun hclo0 => ?_)
  refine q_blk 1 [] (c' := q_kc (t, r, m, 499, 529, ext, rx, L) I E 1 [some (.ref 520), none, none, none, none, none] [.int (136 : Int32)] [] []) ok_X14_copyAll rfl q_cn ?_
  refine q_knewI (Lw := 136) (pos' := 2) (lI' := [(529, (fun _ => 0))]) (lE' := [(529, (fun _ => none))]) ok_X14_copyAll rfl rfl rfl (Nat.le_of_ble_eq_true rfl) (Nat.le_of_ble_eq_true rfl) rfl rfl rfl ?_
  refine q_blk 5 [] (c' := q_kc (t, r, m, 499, 530, (q_ur ext 529 (1, 0, 136)), (q_ur rx 529 (fun _ => none)), (q_ur L 529 (fun _ => 0))) I E 7 [some (.ref 520), some (.ref 529), none, none, none, none] [.ref 529, .ref 522, .ref 520] [(529, (fun _ => 0))] [(529, (fun _ => none))]) ok_X14_copyAll rfl q_cn ?_
  obtain ⟨r19, hr19, hf⟩ := q_bd hf
  refine q_kV (M2 := m_X14_copy) (As := [.ref 522, .ref 529]) (b := 520) (v2 := none) ok_X14_copyAll ok_X14_copy cv_X14_copy (ct_X14_copy_520_522_529_O (d := 2) (Nat.le_refl _) hr19) rfl rfl (Or.inl rfl) rfl rfl rfl rfl (Nat.le_trans (Nat.le_of_ble_eq_true rfl) hd) (Nat.le_of_ble_eq_true rfl) (Nat.le_of_ble_eq_true rfl) (Nat.le_of_ble_eq_true rfl) (fun x hx => absurd hx List.not_mem_nil) (q_nmL0 _) (q_nmS0 _) rfl (pos' := 8) (st' := []) (lI' := [(529, r19)]) (lE' := [(529, (fun _ => none))]) rfl rfl rfl rfl ?_
  refine q_blk 1 [] (c' := q_kc (t, r, m, 499, 530, (q_ur ext 529 (1, 0, 136)), (q_ur rx 529 (fun _ => none)), (q_ur L 529 (fun _ => 0))) I E 9 [some (.ref 520), some (.ref 529), none, none, none, none] [.ref 520] [(529, r19)] [(529, (fun _ => none))]) ok_X14_copyAll rfl q_cn ?_
  obtain ⟨r20, hr20, hf⟩ := q_bd hf
  refine q_kV (M2 := m_X14_forget) (As := []) (b := 520) (v2 := none) ok_X14_copyAll ok_X14_forget cv_X14_forget (ct_X14_forget_520 (d := 1) (Nat.le_refl _) hr20) rfl rfl (Or.inl rfl) rfl rfl rfl rfl (Nat.le_trans (Nat.le_of_ble_eq_true rfl) hd) (Nat.le_of_ble_eq_true rfl) (Nat.le_of_ble_eq_true rfl) (Nat.le_of_ble_eq_true rfl) (fun x hx => absurd hx List.not_mem_nil) (q_nmL0 _) (q_nmS0 _) rfl (pos' := 10) (st' := []) (lI' := [(492, r20.1), (511, r20.2), (529, r19)]) (lE' := [(529, (fun _ => none))]) rfl rfl rfl rfl ?_
  refine q_blk 2 [] (c' := q_kc (t, r, m, 499, 530, (q_ur ext 529 (1, 0, 136)), (q_ur rx 529 (fun _ => none)), (q_ur L 529 (fun _ => 0))) I E 12 [some (.ref 520), some (.ref 529), none, none, none, none] [.int (1 : Int32), .ref 520] [(492, r20.1), (511, r20.2), (529, r19)] [(529, (fun _ => none))]) ok_X14_copyAll rfl q_cn ?_
  obtain ⟨r21, hr21, hf⟩ := q_bd hf
  refine q_kV (M2 := m_X14_bales) (As := [.int (1 : Int32)]) (b := 520) (v2 := some (.int r21)) ok_X14_copyAll ok_X14_bales cv_X14_bales (ct_X14_bales_520 (d := 1) (Nat.le_refl _) hr21) rfl rfl (Or.inl rfl) rfl rfl rfl rfl (Nat.le_trans (Nat.le_of_ble_eq_true rfl) hd) (Nat.le_of_ble_eq_true rfl) (Nat.le_of_ble_eq_true rfl) (Nat.le_of_ble_eq_true rfl) (fun x hx => absurd hx List.not_mem_nil) (q_nmL0 _) (q_nmS0 _) rfl (pos' := 13) (st' := [.int r21]) (lI' := [(492, r20.1), (511, r20.2), (529, r19)]) (lE' := [(529, (fun _ => none))]) rfl rfl rfl rfl ?_
  refine q_blk 3 [] (c' := q_kc (t, r, m, 499, 530, (q_ur ext 529 (1, 0, 136)), (q_ur rx 529 (fun _ => none)), (q_ur L 529 (fun _ => 0))) I E 16 [some (.ref 520), some (.ref 529), some (.int r21), some (.int (0 : Int32)), none, none] [] [(492, r20.1), (511, r20.2), (529, r19)] [(529, (fun _ => none))]) ok_X14_copyAll rfl q_cn ?_
  obtain ⟨r22, hr22, hf⟩ := q_bd hf
  refine lp_X14_copyAll_L16_520 (I := q_ws I [(492, r20.1), (511, r20.2), (529, r19)]) (E := q_ws E [(529, (fun _ => none))]) hd (Nat.le_of_ble_eq_true rfl) (Nat.le_of_ble_eq_true rfl) 4096 hr22 ?_
  refine q_Jmrg (lI' := [(492, r20.1), (511, r20.2), (522, r22), (529, r19)]) (lE' := [(529, (fun _ => none))]) rfl rfl ?_
  refine q_blk 4 [] (c' := q_kc (t, r, m, 499, 530, (q_ur ext 529 (1, 0, 136)), (q_ur rx 529 (fun _ => none)), (q_ur L 529 (fun _ => 0))) I E 35 [some (.ref 520), some (.ref 529), some (.int r21), some (.int (0 : Int32)), some (.int (0 : Int32)), none] [] [(492, r20.1), (511, r20.2), (522, r22), (529, r19)] [(529, (fun _ => none))]) ok_X14_copyAll rfl q_cn ?_
  obtain ⟨r23, hr23, hf⟩ := q_bd hf
  refine lp_X14_copyAll_L35_520 (I := q_ws I [(492, r20.1), (511, r20.2), (522, r22), (529, r19)]) (E := q_ws E [(529, (fun _ => none))]) hd (Nat.le_of_ble_eq_true rfl) (Nat.le_of_ble_eq_true rfl) 4096 hr23 ?_
  refine q_Jmrg (lI' := [(492, r23.2.1), (510, r23.2.2.1), (511, r23.2.2.2.1), (520, r23.2.2.2.2.1), (522, r23.2.2.2.2.2.1), (523, r23.2.2.2.2.2.2.1), (526, r23.2.2.2.2.2.2.2), (529, r19)]) (lE' := [(529, (fun _ => none))]) rfl rfl ?_
  refine q_blk 2 [] (c' := q_kc (t, r, m, 499, 530, (q_ur ext 529 (1, 0, 136)), (q_ur rx 529 (fun _ => none)), (q_ur L 529 (fun _ => 0))) I E 54 [some (.ref 520), some (.ref 529), some (.int r21), some (.int r23.1), some (.int (0 : Int32)), none] [] [(492, r23.2.1), (510, r23.2.2.1), (511, r23.2.2.2.1), (520, r23.2.2.2.2.1), (522, r23.2.2.2.2.2.1), (523, r23.2.2.2.2.2.2.1), (526, r23.2.2.2.2.2.2.2), (529, r19)] [(529, (fun _ => none))]) ok_X14_copyAll rfl q_cn ?_
  obtain ⟨r24, hr24, hf⟩ := q_bd hf
  refine lp_X14_copyAll_L54_520 (I := q_ws I [(492, r23.2.1), (510, r23.2.2.1), (511, r23.2.2.2.1), (520, r23.2.2.2.2.1), (522, r23.2.2.2.2.2.1), (523, r23.2.2.2.2.2.2.1), (526, r23.2.2.2.2.2.2.2), (529, r19)]) (E := q_ws E [(529, (fun _ => none))]) hd (Nat.le_of_ble_eq_true rfl) (Nat.le_of_ble_eq_true rfl) 4096 hr24 ?_
  refine q_Jmrg (lI' := [(492, r24.2.1), (510, r24.2.2.1), (511, r24.2.2.2.1), (520, r24.2.2.2.2.1), (522, r24.2.2.2.2.2.1), (523, r24.2.2.2.2.2.2.1), (526, r24.2.2.2.2.2.2.2), (529, r19)]) (lE' := [(529, (fun _ => none))]) rfl rfl ?_
  refine q_blk 2 [] (c' := q_kc (t, r, m, 499, 530, (q_ur ext 529 (1, 0, 136)), (q_ur rx 529 (fun _ => none)), (q_ur L 529 (fun _ => 0))) I E 88 [some (.ref 520), some (.ref 529), some (.int r21), some (.int r24.1), some (.int (0 : Int32)), none] [] [(492, r24.2.1), (510, r24.2.2.1), (511, r24.2.2.2.1), (520, r24.2.2.2.2.1), (522, r24.2.2.2.2.2.1), (523, r24.2.2.2.2.2.2.1), (526, r24.2.2.2.2.2.2.2), (529, r19)] [(529, (fun _ => none))]) ok_X14_copyAll rfl q_cn ?_
  obtain ⟨r25, hr25, hf⟩ := q_bd hf
  refine lp_X14_copyAll_L88_520 (I := q_ws I [(492, r24.2.1), (510, r24.2.2.1), (511, r24.2.2.2.1), (520, r24.2.2.2.2.1), (522, r24.2.2.2.2.2.1), (523, r24.2.2.2.2.2.2.1), (526, r24.2.2.2.2.2.2.2), (529, r19)]) (E := q_ws E [(529, (fun _ => none))]) hd (Nat.le_of_ble_eq_true rfl) (Nat.le_of_ble_eq_true rfl) 4096 hr25 ?_
  refine q_Jmrg (lI' := [(492, r25.1), (510, r25.2.1), (511, r25.2.2.1), (520, r25.2.2.2.1), (522, r25.2.2.2.2.1), (523, r25.2.2.2.2.2.1), (526, r25.2.2.2.2.2.2), (529, r19)]) (lE' := [(529, (fun _ => none))]) rfl rfl ?_
  refine q_blk 27 [] (c' := q_kc (t, r, m, 499, 530, (q_ur ext 529 (1, 0, 136)), (q_ur rx 529 (fun _ => none)), (q_ur L 529 (fun _ => 0))) I E 132 [some (.ref 520), none, some (.int r21), none, none, none] [.int (r21 - (r25.1 16))] [(492, r25.1), (510, r25.2.1), (511, r25.2.2.1), (520, (q_up (q_up (q_up r25.2.2.2.1 2 ((1 : Int32) - (r25.2.2.2.1 2))) 3 (((q_up r25.2.2.2.1 2 ((1 : Int32) - (r25.2.2.2.1 2))) 3) + (1 : Int32))) 5 (((q_up (q_up r25.2.2.2.1 2 ((1 : Int32) - (r25.2.2.2.1 2))) 3 (((q_up r25.2.2.2.1 2 ((1 : Int32) - (r25.2.2.2.1 2))) 3) + (1 : Int32))) 5) + (r21 - (r25.1 16))))), (522, r25.2.2.2.2.1), (523, r25.2.2.2.2.2.1), (526, r25.2.2.2.2.2.2), (529, r19)] [(529, (fun _ => none))]) ok_X14_copyAll rfl q_cn ?_
  cases hf
  refine q_less (ls' := [none, none, none, none, none, none]) (q_sb1 (q_sb1 (q_sb1 (q_sb1 (q_sb1 (q_sb1 q_sb0)))))) ?_
  refine q_kdrop (lI0 := [(492, r25.1), (510, r25.2.1), (511, r25.2.2.1), (520, (q_up (q_up (q_up r25.2.2.2.1 2 ((1 : Int32) - (r25.2.2.2.1 2))) 3 (((q_up r25.2.2.2.1 2 ((1 : Int32) - (r25.2.2.2.1 2))) 3) + (1 : Int32))) 5 (((q_up (q_up r25.2.2.2.1 2 ((1 : Int32) - (r25.2.2.2.1 2))) 3 (((q_up r25.2.2.2.1 2 ((1 : Int32) - (r25.2.2.2.1 2))) 3) + (1 : Int32))) 5) + (r21 - (r25.1 16))))), (522, r25.2.2.2.2.1), (523, r25.2.2.2.2.2.1), (526, r25.2.2.2.2.2.2)]) (lE0 := []) hclo0 rfl rfl (q_nrS_of rfl) (q_nrL_of rfl) (Nat.le_refl _) rfl ?_
  exact q_kri ok_X14_copyAll rfl rfl rfl (Nat.le_of_ble_eq_true rfl) (Nat.le_of_ble_eq_true rfl) ⟨rfl, q_hpe (q_fin [492, 510, 511, 520, 522, 523, 526] rfl) (q_fin [] rfl)⟩
set_option maxHeartbeats 4000000 in
theorem lp_X14_make_L29_520 {g : q_G} {d mc ms : Nat} {h0 : q_H} {Q : (Option Value ⊕ String) → q_H → Prop} {k n : Nat} {t : Nat} {r : Nat} {m : Nat} {z : Nat} {N : Nat} {ext : Nat → q_Sh} {rx : Nat → Nat → Option Nat} {L : Nat → Nat → Int64} (hd : 7 ≤ d) (hk : k ≤ mc) (hn : n ≤ ms)  {v1 : Int32} {v2 : Int32} {v3 : Int32} {v4 : Int32} : ∀ (fu : Nat) {I : Nat → Nat → Int32} {E : Nat → Nat → Option Nat} {v5 : Int32} {r0 : Int32} (hf : f_X14_make_L29 (I 522) fu v5 = some r0) (hK0 : q_J g m_X14_make d mc ms h0 [] Q k n (q_kc (t, r, m, z, N, ext, rx, L) I E 36 [some (.ref 520), some (.int v1), some (.int v2), some (.int v3), some (.int v4), some (.int r0), none] [] [] [])), q_J g m_X14_make d mc ms h0 [] Q k n (29, [some (.ref 520), some (.int v1), some (.int v2), some (.int v3), some (.int v4), some (.int v5), none], [], q_hp (t, r, m, z, N, ext, rx, L) I E) := by
  intro fu
  induction fu with
  | zero =>
    intro I E v5 r0 hf hK0
    rw [f_X14_make_L29] at hf
    cases hf
  | succ fu ih =>
    intro I E v5 r0 hf hK0
    rw [f_X14_make_L29] at hf
    change q_J g m_X14_make d mc ms h0 [] Q k n (q_kc (t, r, m, z, N, ext, rx, L) I E 29 [some (.ref 520), some (.int v1), some (.int v2), some (.int v3), some (.int v4), some (.int v5), none] [] [] [])
    obtain ⟨j1, hj1, hf⟩ := q_bd hf
    refine q_blf 4 [j1] (a := q_kc (t, r, m, z, N, ext, rx, L) I E 36 [some (.ref 520), some (.int v1), some (.int v2), some (.int v3), some (.int v4), some (.int v5), none] [] [] []) (b := q_kc (t, r, m, z, N, ext, rx, L) I E 34 [some (.ref 520), some (.int v1), some (.int v2), some (.int v3), some (.int v4), some (.int v5), none] [] [] []) (P := ((I 522) j1) = 0) ok_X14_make rfl (q_cc hj1 q_cn) (fun h2 => ?_) (fun h2 => ?_)
    · have hf := q_ip h2 hf
      cases hf
      exact q_Jpad [] [] rfl rfl hK0
    · have hf := q_in h2 hf
      refine q_blk 2 [] (c' := q_kc (t, r, m, z, N, ext, rx, L) I E 29 [some (.ref 520), some (.int v1), some (.int v2), some (.int v3), some (.int v4), some (.int (v5 + 1)), none] [] [] []) ok_X14_make rfl q_cn ?_
      exact ih (I := q_ws I []) (E := q_ws E []) hf (q_Jmrg rfl rfl hK0)
set_option maxHeartbeats 4000000 in
theorem lp_X14_make_L63_520 {g : q_G} {d mc ms : Nat} {h0 : q_H} {Q : (Option Value ⊕ String) → q_H → Prop} {k n : Nat} {t : Nat} {r : Nat} {m : Nat} {z : Nat} {N : Nat} {ext : Nat → q_Sh} {rx : Nat → Nat → Option Nat} {L : Nat → Nat → Int64} (hd : 7 ≤ d) (hk : k ≤ mc) (hn : n ≤ ms)  {v1 : Int32} {v5 : Int32} : ∀ (fu : Nat) {I : Nat → Nat → Int32} {E : Nat → Nat → Option Nat} {v6 : Int32} {r0 : (Nat → Int32)} (hf : f_X14_make_L63 v5 fu (I 527) v6 = some r0) (hK0 : q_J g m_X14_make d mc ms h0 [] Q k n (q_kc (t, r, m, z, N, ext, rx, L) I E 77 [some (.ref 520), some (.int v1), none, none, none, some (.int v5), none] [] [(527, r0)] [])), q_J g m_X14_make d mc ms h0 [] Q k n (63, [some (.ref 520), some (.int v1), none, none, none, some (.int v5), some (.int v6)], [], q_hp (t, r, m, z, N, ext, rx, L) I E) := by
  intro fu
  induction fu with
  | zero =>
    intro I E v6 r0 hf hK0
    rw [f_X14_make_L63] at hf
    cases hf
  | succ fu ih =>
    intro I E v6 r0 hf hK0
    rw [f_X14_make_L63] at hf
    change q_J g m_X14_make d mc ms h0 [] Q k n (q_kc (t, r, m, z, N, ext, rx, L) I E 63 [some (.ref 520), some (.int v1), none, none, none, some (.int v5), some (.int v6)] [] [] [])
    refine q_blf 2 [] (a := q_kc (t, r, m, z, N, ext, rx, L) I E 77 [some (.ref 520), some (.int v1), none, none, none, some (.int v5), some (.int v6)] [] [] []) (b := q_kc (t, r, m, z, N, ext, rx, L) I E 66 [some (.ref 520), some (.int v1), none, none, none, some (.int v5), some (.int v6)] [] [] []) (P := (3 : Int32) ≤ v6) ok_X14_make rfl q_cn (fun h3 => ?_) (fun h3 => ?_)
    · have hf := q_ip h3 hf
      refine q_less (ls' := [some (.ref 520), some (.int v1), none, none, none, some (.int v5), none]) (q_sb2 (q_sb2 (q_sb1 (q_sb1 (q_sb1 (q_sb2 (q_sb1 q_sb0))))))) ?_
      cases hf
      exact q_Jpad [527] [] rfl rfl hK0
    · have hf := q_in h3 hf
      obtain ⟨j4, hj4, hf⟩ := q_bd hf
      refine q_blk 11 [j4] (c' := q_kc (t, r, m, z, N, ext, rx, L) I E 63 [some (.ref 520), some (.int v1), none, none, none, some (.int v5), some (.int (v6 + 1))] [] [(527, (q_up (I 527) j4 (-1 : Int32)))] []) ok_X14_make rfl (q_cc hj4 q_cn) ?_
      exact ih (I := q_ws I [(527, (q_up (I 527) j4 (-1 : Int32)))]) (E := q_ws E []) hf (q_Jmrg rfl rfl hK0)
set_option maxHeartbeats 4000000 in
theorem ct_X14_make_520 {g : q_G} {t : Nat} {r : Nat} {m : Nat} {ext : Nat → q_Sh} {rx : Nat → Nat → Option Nat} {L : Nat → Nat → Int64} {d : Nat} (hd : 7 ≤ d)  {I : Nat → Nat → Int32} {E : Nat → Nat → Option Nat} {x1 : Int32} {x2 : Int32} {x3 : Int32} {r0 : Bool × (Nat → Int32) × (Nat → Int32) × (Nat → Int32) × (Nat → Int32) × (Nat → Int32) × (Nat → Int32) × (Nat → Int32) × (Nat → Int32) × (Nat → Int32) × (Nat → Int32) × (Nat → Int32)} (hf : f_X14_make (I 492) (I 499) (I 510) (I 511) (I 520) (I 521) (I 522) (I 523) (I 524) (I 525) (I 526) (I 527) x1 x2 x3 = some r0) : q_Ct g m_X14_make d 1 136 [] [.ref 520, .int x1, .int x2, .int x3] (q_hp (t, r, m, 499, 529, ext, rx, L) I E) (fun o h' => o = .inl (some (.int (q_bz r0.1))) ∧ h' = q_hp (t, r, m, 499, 529, ext, rx, L) (q_ws I [(492, r0.2.1), (510, r0.2.2.1), (511, r0.2.2.2.1), (520, r0.2.2.2.2.1), (521, r0.2.2.2.2.2.1), (522, r0.2.2.2.2.2.2.1), (523, r0.2.2.2.2.2.2.2.1), (524, r0.2.2.2.2.2.2.2.2.1), (525, r0.2.2.2.2.2.2.2.2.2.1), (526, r0.2.2.2.2.2.2.2.2.2.2.1), (527, r0.2.2.2.2.2.2.2.2.2.2.2)]) (q_ws E [])) := by
  rw [f_X14_make] at hf
  refine q_Ct_of ok_X14_make (Nat.le_of_ble_eq_true rfl) ?_ _ rfl rfl
  change q_J g m_X14_make d 1 136 _ [] _ 0 0 (q_kc (t, r, m, 499, 529, ext, rx, L) I E 0 [some (.ref 520), some (.int x1), some (.int x2), some (.int x3), none, none, none] [] [] [])
  refine q_blk 6 [] (c' := q_kc (t, r, m, 499, 529, ext, rx, L) I E 6 [some (.ref 520), some (.int x1), some (.int x2), some (.int x3), none, none, none] [.int (1 : Int32), .ref 520, .int ((I 499) 1)] [] []) ok_X14_make rfl q_cn ?_
  obtain ⟨r5, hr5, hf⟩ := q_bd hf
  refine q_kV (M2 := m_X14_used) (As := [.int (1 : Int32)]) (b := 520) (v2 := some (.int r5)) ok_X14_make ok_X14_used cv_X14_used (ct_X14_used_520 (d := 1) (Nat.le_refl _) hr5) rfl rfl (Or.inl rfl) rfl rfl rfl rfl (Nat.le_trans (Nat.le_of_ble_eq_true rfl) hd) (Nat.le_of_ble_eq_true rfl) (Nat.le_of_ble_eq_true rfl) (Nat.le_of_ble_eq_true rfl) (fun x hx => absurd hx List.not_mem_nil) (q_nmL0 _) (q_nmS0 _) rfl (pos' := 7) (st' := [.int r5, .int ((I 499) 1)]) (lI' := []) (lE' := []) rfl rfl rfl rfl ?_
  refine q_blf 2 [] (a := q_kc (t, r, m, 499, 529, ext, rx, L) I E 13 [some (.ref 520), some (.int x1), some (.int x2), some (.int x3), none, none, none] [] [] []) (b := q_kc (t, r, m, 499, 529, ext, rx, L) I E 10 [some (.ref 520), some (.int x1), some (.int x2), some (.int x3), none, none, none] [] [] []) (P := x2 ≤ (((I 499) 1) - r5)) ok_X14_make rfl q_cn (fun h6 => ?_) (fun h6 => ?_)
  · have hf := q_ip h6 hf
    refine q_blk 2 [] (c' := q_kc (t, r, m, 499, 529, ext, rx, L) I E 15 [some (.ref 520), some (.int x1), some (.int x2), some (.int x3), none, none, none] [.int (1 : Int32), .ref 520] [] []) ok_X14_make rfl q_cn ?_
    obtain ⟨r7, hr7, hf⟩ := q_bd hf
    refine q_kV (M2 := m_X14_used) (As := [.int (1 : Int32)]) (b := 520) (v2 := some (.int r7)) ok_X14_make ok_X14_used cv_X14_used (ct_X14_used_520 (d := 1) (Nat.le_refl _) hr7) rfl rfl (Or.inl rfl) rfl rfl rfl rfl (Nat.le_trans (Nat.le_of_ble_eq_true rfl) hd) (Nat.le_of_ble_eq_true rfl) (Nat.le_of_ble_eq_true rfl) (Nat.le_of_ble_eq_true rfl) (fun x hx => absurd hx List.not_mem_nil) (q_nmL0 _) (q_nmS0 _) rfl (pos' := 16) (st' := [.int r7]) (lI' := []) (lE' := []) rfl rfl rfl rfl ?_
    refine q_blf 8 [] (a := q_kc (t, r, m, 499, 529, ext, rx, L) I E 27 [some (.ref 520), some (.int x1), some (.int x2), some (.int x3), some (.int r7), none, none] [] [] []) (b := q_kc (t, r, m, 499, 529, ext, rx, L) I E 25 [some (.ref 520), some (.int x1), some (.int x2), some (.int x3), some (.int r7), none, none] [] [] []) (P := x2 ≤ (((I 499) 1) - r7)) ok_X14_make rfl q_cn (fun h8 => ?_) (fun h8 => ?_)
    · have hf := q_ip h8 hf
      refine q_blk 2 [] (c' := q_kc (t, r, m, 499, 529, ext, rx, L) I E 29 [some (.ref 520), some (.int x1), some (.int x2), some (.int x3), some (.int r7), some (.int (0 : Int32)), none] [] [] []) ok_X14_make rfl q_cn ?_
      obtain ⟨r9, hr9, hf⟩ := q_bd hf
      refine lp_X14_make_L29_520 (I := q_ws I []) (E := q_ws E []) hd (Nat.le_of_ble_eq_true rfl) (Nat.le_of_ble_eq_true rfl) 4096 hr9 ?_
      refine q_Jmrg (lI' := []) (lE' := []) rfl rfl ?_
      obtain ⟨j10, hj10, hf⟩ := q_bd hf
      obtain ⟨j11, hj11, hf⟩ := q_bd hf
      obtain ⟨j12, hj12, hf⟩ := q_bd hf
      obtain ⟨j13, hj13, hf⟩ := q_bd hf
      obtain ⟨j14, hj14, hf⟩ := q_bd hf
      refine q_blk 27 [j10, j11, j12, j13, j14] (c' := q_kc (t, r, m, 499, 529, ext, rx, L) I E 63 [some (.ref 520), some (.int x1), some (.int x2), some (.int x3), some (.int r7), some (.int r9), some (.int (0 : Int32))] [] [(522, (q_up (I 522) j10 (1 : Int32))), (523, (q_up (I 523) j11 r7)), (524, (q_up (I 524) j12 x2)), (525, (q_up (I 525) j13 x3)), (526, (q_up (I 526) j14 (0 : Int32)))] []) ok_X14_make rfl (q_cc hj14 (q_cc hj13 (q_cc hj12 (q_cc hj11 (q_cc hj10 q_cn))))) ?_
      refine q_less (ls' := [some (.ref 520), some (.int x1), none, none, none, some (.int r9), some (.int (0 : Int32))]) (q_sb2 (q_sb2 (q_sb1 (q_sb1 (q_sb1 (q_sb2 (q_sb2 q_sb0))))))) ?_
      obtain ⟨r15, hr15, hf⟩ := q_bd hf
      refine lp_X14_make_L63_520 (I := q_ws I [(522, (q_up (I 522) j10 (1 : Int32))), (523, (q_up (I 523) j11 r7)), (524, (q_up (I 524) j12 x2)), (525, (q_up (I 525) j13 x3)), (526, (q_up (I 526) j14 (0 : Int32)))]) (E := q_ws E []) hd (Nat.le_of_ble_eq_true rfl) (Nat.le_of_ble_eq_true rfl) 4096 hr15 ?_
      refine q_Jmrg (lI' := [(522, (q_up (I 522) j10 (1 : Int32))), (523, (q_up (I 523) j11 r7)), (524, (q_up (I 524) j12 x2)), (525, (q_up (I 525) j13 x3)), (526, (q_up (I 526) j14 (0 : Int32))), (527, r15)]) (lE' := []) rfl rfl ?_
      obtain ⟨j16, hj16, hf⟩ := q_bd hf
      refine q_blk 6 [j16] (c' := q_kc (t, r, m, 499, 529, ext, rx, L) I E 83 [some (.ref 520), some (.int x1), none, none, none, some (.int r9), none] [.int (1 : Int32)] [(521, (q_up (I 521) j16 r9)), (522, (q_up (I 522) j10 (1 : Int32))), (523, (q_up (I 523) j11 r7)), (524, (q_up (I 524) j12 x2)), (525, (q_up (I 525) j13 x3)), (526, (q_up (I 526) j14 (0 : Int32))), (527, r15)] []) ok_X14_make rfl (q_cc hj16 q_cn) ?_
      cases hf
      exact q_kri ok_X14_make rfl rfl rfl (Nat.le_of_ble_eq_true rfl) (Nat.le_of_ble_eq_true rfl) ⟨rfl, q_hpe (q_fin [492, 510, 511, 520, 521, 522, 523, 524, 525, 526, 527] rfl) (q_fin [] rfl)⟩
    · have hf := q_in h8 hf
      refine q_blk 1 [] (c' := q_kc (t, r, m, 499, 529, ext, rx, L) I E 26 [some (.ref 520), some (.int x1), some (.int x2), some (.int x3), some (.int r7), none, none] [.int (0 : Int32)] [] []) ok_X14_make rfl q_cn ?_
      cases hf
      exact q_kri ok_X14_make rfl rfl rfl (Nat.le_of_ble_eq_true rfl) (Nat.le_of_ble_eq_true rfl) ⟨rfl, q_hpe (q_fin [492, 510, 511, 520, 521, 522, 523, 524, 525, 526, 527] rfl) (q_fin [] rfl)⟩
  · have hf := q_in h6 hf
    refine q_blk 1 [] (c' := q_kc (t, r, m, 499, 529, ext, rx, L) I E 11 [some (.ref 520), some (.int x1), some (.int x2), some (.int x3), none, none, none] [.ref 520] [] []) ok_X14_make rfl q_cn ?_
    obtain ⟨r17, hr17, hf⟩ := q_bd hf
    refine q_kV (M2 := m_X14_copyAll) (As := []) (b := 520) (v2 := some (.int r17.1)) ok_X14_make ok_X14_copyAll cv_X14_copyAll (ct_X14_copyAll_520 (d := 6) (Nat.le_refl _) hr17) rfl rfl (Or.inl rfl) rfl rfl rfl rfl (Nat.le_trans (Nat.le_of_ble_eq_true rfl) hd) (Nat.le_of_ble_eq_true rfl) (Nat.le_of_ble_eq_true rfl) (Nat.le_of_ble_eq_true rfl) (fun x hx => absurd hx List.not_mem_nil) (q_nmL0 _) (q_nmS0 _) rfl (pos' := 12) (st' := [.int r17.1]) (lI' := [(492, r17.2.1), (510, r17.2.2.1), (511, r17.2.2.2.1), (520, r17.2.2.2.2.1), (522, r17.2.2.2.2.2.1), (523, r17.2.2.2.2.2.2.1), (526, r17.2.2.2.2.2.2.2)]) (lE' := []) rfl rfl rfl rfl ?_
    refine q_blk 3 [] (c' := q_kc (t, r, m, 499, 529, ext, rx, L) I E 15 [some (.ref 520), some (.int x1), some (.int x2), some (.int x3), none, none, none] [.int (1 : Int32), .ref 520] [(492, r17.2.1), (510, r17.2.2.1), (511, r17.2.2.2.1), (520, r17.2.2.2.2.1), (522, r17.2.2.2.2.2.1), (523, r17.2.2.2.2.2.2.1), (526, r17.2.2.2.2.2.2.2)] []) ok_X14_make rfl q_cn ?_
    obtain ⟨r18, hr18, hf⟩ := q_bd hf
    refine q_kV (M2 := m_X14_used) (As := [.int (1 : Int32)]) (b := 520) (v2 := some (.int r18)) ok_X14_make ok_X14_used cv_X14_used (ct_X14_used_520 (d := 1) (Nat.le_refl _) hr18) rfl rfl (Or.inl rfl) rfl rfl rfl rfl (Nat.le_trans (Nat.le_of_ble_eq_true rfl) hd) (Nat.le_of_ble_eq_true rfl) (Nat.le_of_ble_eq_true rfl) (Nat.le_of_ble_eq_true rfl) (fun x hx => absurd hx List.not_mem_nil) (q_nmL0 _) (q_nmS0 _) rfl (pos' := 16) (st' := [.int r18]) (lI' := [(492, r17.2.1), (510, r17.2.2.1), (511, r17.2.2.2.1), (520, r17.2.2.2.2.1), (522, r17.2.2.2.2.2.1), (523, r17.2.2.2.2.2.2.1), (526, r17.2.2.2.2.2.2.2)]) (lE' := []) rfl rfl rfl rfl ?_
    refine q_blf 8 [] (a := q_kc (t, r, m, 499, 529, ext, rx, L) I E 27 [some (.ref 520), some (.int x1), some (.int x2), some (.int x3), some (.int r18), none, none] [] [(492, r17.2.1), (510, r17.2.2.1), (511, r17.2.2.2.1), (520, r17.2.2.2.2.1), (522, r17.2.2.2.2.2.1), (523, r17.2.2.2.2.2.2.1), (526, r17.2.2.2.2.2.2.2)] []) (b := q_kc (t, r, m, 499, 529, ext, rx, L) I E 25 [some (.ref 520), some (.int x1), some (.int x2), some (.int x3), some (.int r18), none, none] [] [(492, r17.2.1), (510, r17.2.2.1), (511, r17.2.2.2.1), (520, r17.2.2.2.2.1), (522, r17.2.2.2.2.2.1), (523, r17.2.2.2.2.2.2.1), (526, r17.2.2.2.2.2.2.2)] []) (P := x2 ≤ (((I 499) 1) - r18)) ok_X14_make rfl q_cn (fun h19 => ?_) (fun h19 => ?_)
    · have hf := q_ip h19 hf
      refine q_blk 2 [] (c' := q_kc (t, r, m, 499, 529, ext, rx, L) I E 29 [some (.ref 520), some (.int x1), some (.int x2), some (.int x3), some (.int r18), some (.int (0 : Int32)), none] [] [(492, r17.2.1), (510, r17.2.2.1), (511, r17.2.2.2.1), (520, r17.2.2.2.2.1), (522, r17.2.2.2.2.2.1), (523, r17.2.2.2.2.2.2.1), (526, r17.2.2.2.2.2.2.2)] []) ok_X14_make rfl q_cn ?_
      obtain ⟨r20, hr20, hf⟩ := q_bd hf
      refine lp_X14_make_L29_520 (I := q_ws I [(492, r17.2.1), (510, r17.2.2.1), (511, r17.2.2.2.1), (520, r17.2.2.2.2.1), (522, r17.2.2.2.2.2.1), (523, r17.2.2.2.2.2.2.1), (526, r17.2.2.2.2.2.2.2)]) (E := q_ws E []) hd (Nat.le_of_ble_eq_true rfl) (Nat.le_of_ble_eq_true rfl) 4096 hr20 ?_
      refine q_Jmrg (lI' := [(492, r17.2.1), (510, r17.2.2.1), (511, r17.2.2.2.1), (520, r17.2.2.2.2.1), (522, r17.2.2.2.2.2.1), (523, r17.2.2.2.2.2.2.1), (526, r17.2.2.2.2.2.2.2)]) (lE' := []) rfl rfl ?_
      obtain ⟨j21, hj21, hf⟩ := q_bd hf
      obtain ⟨j22, hj22, hf⟩ := q_bd hf
      obtain ⟨j23, hj23, hf⟩ := q_bd hf
      obtain ⟨j24, hj24, hf⟩ := q_bd hf
      obtain ⟨j25, hj25, hf⟩ := q_bd hf
      refine q_blk 27 [j21, j22, j23, j24, j25] (c' := q_kc (t, r, m, 499, 529, ext, rx, L) I E 63 [some (.ref 520), some (.int x1), some (.int x2), some (.int x3), some (.int r18), some (.int r20), some (.int (0 : Int32))] [] [(492, r17.2.1), (510, r17.2.2.1), (511, r17.2.2.2.1), (520, r17.2.2.2.2.1), (522, (q_up r17.2.2.2.2.2.1 j21 (1 : Int32))), (523, (q_up r17.2.2.2.2.2.2.1 j22 r18)), (524, (q_up (I 524) j23 x2)), (525, (q_up (I 525) j24 x3)), (526, (q_up r17.2.2.2.2.2.2.2 j25 (0 : Int32)))] []) ok_X14_make rfl (q_cc hj25 (q_cc hj24 (q_cc hj23 (q_cc hj22 (q_cc hj21 q_cn))))) ?_
      refine q_less (ls' := [some (.ref 520), some (.int x1), none, none, none, some (.int r20), some (.int (0 : Int32))]) (q_sb2 (q_sb2 (q_sb1 (q_sb1 (q_sb1 (q_sb2 (q_sb2 q_sb0))))))) ?_
      obtain ⟨r26, hr26, hf⟩ := q_bd hf
      refine lp_X14_make_L63_520 (I := q_ws I [(492, r17.2.1), (510, r17.2.2.1), (511, r17.2.2.2.1), (520, r17.2.2.2.2.1), (522, (q_up r17.2.2.2.2.2.1 j21 (1 : Int32))), (523, (q_up r17.2.2.2.2.2.2.1 j22 r18)), (524, (q_up (I 524) j23 x2)), (525, (q_up (I 525) j24 x3)), (526, (q_up r17.2.2.2.2.2.2.2 j25 (0 : Int32)))]) (E := q_ws E []) hd (Nat.le_of_ble_eq_true rfl) (Nat.le_of_ble_eq_true rfl) 4096 hr26 ?_
      refine q_Jmrg (lI' := [(492, r17.2.1), (510, r17.2.2.1), (511, r17.2.2.2.1), (520, r17.2.2.2.2.1), (522, (q_up r17.2.2.2.2.2.1 j21 (1 : Int32))), (523, (q_up r17.2.2.2.2.2.2.1 j22 r18)), (524, (q_up (I 524) j23 x2)), (525, (q_up (I 525) j24 x3)), (526, (q_up r17.2.2.2.2.2.2.2 j25 (0 : Int32))), (527, r26)]) (lE' := []) rfl rfl ?_
      obtain ⟨j27, hj27, hf⟩ := q_bd hf
      refine q_blk 6 [j27] (c' := q_kc (t, r, m, 499, 529, ext, rx, L) I E 83 [some (.ref 520), some (.int x1), none, none, none, some (.int r20), none] [.int (1 : Int32)] [(492, r17.2.1), (510, r17.2.2.1), (511, r17.2.2.2.1), (520, r17.2.2.2.2.1), (521, (q_up (I 521) j27 r20)), (522, (q_up r17.2.2.2.2.2.1 j21 (1 : Int32))), (523, (q_up r17.2.2.2.2.2.2.1 j22 r18)), (524, (q_up (I 524) j23 x2)), (525, (q_up (I 525) j24 x3)), (526, (q_up r17.2.2.2.2.2.2.2 j25 (0 : Int32))), (527, r26)] []) ok_X14_make rfl (q_cc hj27 q_cn) ?_
      cases hf
      exact q_kri ok_X14_make rfl rfl rfl (Nat.le_of_ble_eq_true rfl) (Nat.le_of_ble_eq_true rfl) ⟨rfl, q_hpe (q_fin [492, 510, 511, 520, 521, 522, 523, 524, 525, 526, 527] rfl) (q_fin [] rfl)⟩
    · have hf := q_in h19 hf
      refine q_blk 1 [] (c' := q_kc (t, r, m, 499, 529, ext, rx, L) I E 26 [some (.ref 520), some (.int x1), some (.int x2), some (.int x3), some (.int r18), none, none] [.int (0 : Int32)] [(492, r17.2.1), (510, r17.2.2.1), (511, r17.2.2.2.1), (520, r17.2.2.2.2.1), (522, r17.2.2.2.2.2.1), (523, r17.2.2.2.2.2.2.1), (526, r17.2.2.2.2.2.2.2)] []) ok_X14_make rfl q_cn ?_
      cases hf
      exact q_kri ok_X14_make rfl rfl rfl (Nat.le_of_ble_eq_true rfl) (Nat.le_of_ble_eq_true rfl) ⟨rfl, q_hpe (q_fin [492, 510, 511, 520, 521, 522, 523, 524, 525, 526, 527] rfl) (q_fin [] rfl)⟩
set_option maxHeartbeats 4000000 in
theorem ct_X14_hasRope_520 {g : q_G} {t : Nat} {r : Nat} {m : Nat} {z : Nat} {N : Nat} {ext : Nat → q_Sh} {rx : Nat → Nat → Option Nat} {L : Nat → Nat → Int64} {d : Nat} (hd : 2 ≤ d)  {I : Nat → Nat → Int32} {E : Nat → Nat → Option Nat} {x1 : Int32} {x2 : Int32} {r0 : Bool} (hf : f_X14_hasRope (I 521) (I 525) x1 x2 = some r0) : q_Ct g m_X14_hasRope d 0 0 [] [.ref 520, .int x1, .int x2] (q_hp (t, r, m, z, N, ext, rx, L) I E) (fun o h' => o = .inl (some (.int (q_bz r0))) ∧ h' = q_hp (t, r, m, z, N, ext, rx, L) (q_ws I []) (q_ws E [])) := by
  rw [f_X14_hasRope] at hf
  refine q_Ct_of ok_X14_hasRope (Nat.le_of_ble_eq_true rfl) ?_ _ rfl rfl
  change q_J g m_X14_hasRope d 0 0 _ [] _ 0 0 (q_kc (t, r, m, z, N, ext, rx, L) I E 0 [some (.ref 520), some (.int x1), some (.int x2)] [] [] [])
  obtain ⟨j1, hj1, hf⟩ := q_bd hf
  refine q_blf 5 [j1] (a := q_kc (t, r, m, z, N, ext, rx, L) I E 21 [some (.ref 520), some (.int x1), some (.int x2)] [] [] []) (b := q_kc (t, r, m, z, N, ext, rx, L) I E 6 [some (.ref 520), some (.int x1), some (.int x2)] [] [] []) (P := ((I 521) j1) = (-1 : Int32)) ok_X14_hasRope rfl (q_cc hj1 q_cn) (fun h2 => ?_) (fun h2 => ?_)
  · have hf := q_ip h2 hf
    refine q_blk 1 [] (c' := q_kc (t, r, m, z, N, ext, rx, L) I E 22 [some (.ref 520), some (.int x1), some (.int x2)] [.int (0 : Int32)] [] []) ok_X14_hasRope rfl q_cn ?_
    cases hf
    exact q_kri ok_X14_hasRope rfl rfl rfl (Nat.le_of_ble_eq_true rfl) (Nat.le_of_ble_eq_true rfl) ⟨rfl, q_hpe (q_fin [] rfl) (q_fin [] rfl)⟩
  · have hf := q_in h2 hf
    obtain ⟨j3, hj3, hf⟩ := q_bd hf
    obtain ⟨j4, hj4, hf⟩ := q_bd hf
    refine q_blk 11 [j3, j4] (c' := q_kc (t, r, m, z, N, ext, rx, L) I E 17 [some (.ref 520), some (.int x1), some (.int x2)] [.int (((I 525) j4) - (1 : Int32)), .int (0 : Int32), .int x2] [] []) ok_X14_hasRope rfl (q_cc hj4 (q_cc hj3 q_cn)) ?_
    obtain ⟨r5, hr5, hf⟩ := q_bd hf
    refine q_kS (M2 := m_X15_isIn) (As := [.int x2, .int (0 : Int32), .int (((I 525) j4) - (1 : Int32))]) (v2 := some (.int (q_bz r5))) ok_X14_hasRope ok_X15_isIn cs_X15_isIn (ct_X15_isIn (d := 1) (Nat.le_refl _) hr5) rfl rfl (Or.inr ⟨_, rfl⟩) (Nat.le_trans (Nat.le_of_ble_eq_true rfl) hd) (Nat.le_of_ble_eq_true rfl) (Nat.le_of_ble_eq_true rfl) (Nat.le_of_ble_eq_true rfl) (fun x hx => absurd hx List.not_mem_nil) (q_nmL0 _) (q_nmS0 _) rfl (pos' := 18) (st' := [.int (q_bz r5)]) (lI' := []) (lE' := []) rfl rfl rfl rfl ?_
    refine q_blf 0 [] (a := q_kc (t, r, m, z, N, ext, rx, L) I E 21 [some (.ref 520), some (.int x1), some (.int x2)] [] [] []) (b := q_kc (t, r, m, z, N, ext, rx, L) I E 19 [some (.ref 520), some (.int x1), some (.int x2)] [] [] []) (P := (q_bz r5) = 0) ok_X14_hasRope rfl q_cn (fun h6 => ?_) (fun h6 => ?_)
    · have hf := q_ip h6 hf
      refine q_blk 1 [] (c' := q_kc (t, r, m, z, N, ext, rx, L) I E 22 [some (.ref 520), some (.int x1), some (.int x2)] [.int (0 : Int32)] [] []) ok_X14_hasRope rfl q_cn ?_
      cases hf
      exact q_kri ok_X14_hasRope rfl rfl rfl (Nat.le_of_ble_eq_true rfl) (Nat.le_of_ble_eq_true rfl) ⟨rfl, q_hpe (q_fin [] rfl) (q_fin [] rfl)⟩
    · have hf := q_in h6 hf
      refine q_blk 2 [] (c' := q_kc (t, r, m, z, N, ext, rx, L) I E 22 [some (.ref 520), some (.int x1), some (.int x2)] [.int (1 : Int32)] [] []) ok_X14_hasRope rfl q_cn ?_
      cases hf
      exact q_kri ok_X14_hasRope rfl rfl rfl (Nat.le_of_ble_eq_true rfl) (Nat.le_of_ble_eq_true rfl) ⟨rfl, q_hpe (q_fin [] rfl) (q_fin [] rfl)⟩
set_option maxHeartbeats 4000000 in
theorem ct_X14_tie_520 {g : q_G} {t : Nat} {r : Nat} {m : Nat} {z : Nat} {N : Nat} {ext : Nat → q_Sh} {rx : Nat → Nat → Option Nat} {L : Nat → Nat → Int64} {d : Nat} (hd : 3 ≤ d)  {I : Nat → Nat → Int32} {E : Nat → Nat → Option Nat} {x1 : Int32} {x2 : Int32} {x3 : Int32} {r0 : Bool × (Nat → Int32)} (hf : f_X14_tie (I 521) (I 525) (I 527) x1 x2 x3 = some r0) : q_Ct g m_X14_tie d 0 0 [] [.ref 520, .int x1, .int x2, .int x3] (q_hp (t, r, m, z, N, ext, rx, L) I E) (fun o h' => o = .inl (some (.int (q_bz r0.1))) ∧ h' = q_hp (t, r, m, z, N, ext, rx, L) (q_ws I [(527, r0.2)]) (q_ws E [])) := by
  rw [f_X14_tie] at hf
  refine q_Ct_of ok_X14_tie (Nat.le_of_ble_eq_true rfl) ?_ _ rfl rfl
  change q_J g m_X14_tie d 0 0 _ [] _ 0 0 (q_kc (t, r, m, z, N, ext, rx, L) I E 0 [some (.ref 520), some (.int x1), some (.int x2), some (.int x3)] [] [] [])
  refine q_blk 3 [] (c' := q_kc (t, r, m, z, N, ext, rx, L) I E 3 [some (.ref 520), some (.int x1), some (.int x2), some (.int x3)] [.int x2, .int x1, .ref 520] [] []) ok_X14_tie rfl q_cn ?_
  obtain ⟨r1, hr1, hf⟩ := q_bd hf
  refine q_kV (M2 := m_X14_hasRope) (As := [.int x1, .int x2]) (b := 520) (v2 := some (.int (q_bz r1))) ok_X14_tie ok_X14_hasRope cv_X14_hasRope (ct_X14_hasRope_520 (d := 2) (Nat.le_refl _) hr1) rfl rfl (Or.inl rfl) rfl rfl rfl rfl (Nat.le_trans (Nat.le_of_ble_eq_true rfl) hd) (Nat.le_of_ble_eq_true rfl) (Nat.le_of_ble_eq_true rfl) (Nat.le_of_ble_eq_true rfl) (fun x hx => absurd hx List.not_mem_nil) (q_nmL0 _) (q_nmS0 _) rfl (pos' := 4) (st' := [.int (q_bz r1)]) (lI' := []) (lE' := []) rfl rfl rfl rfl ?_
  refine q_blf 0 [] (a := q_kc (t, r, m, z, N, ext, rx, L) I E 11 [some (.ref 520), some (.int x1), some (.int x2), some (.int x3)] [] [] []) (b := q_kc (t, r, m, z, N, ext, rx, L) I E 5 [some (.ref 520), some (.int x1), some (.int x2), some (.int x3)] [] [] []) (P := (q_bz r1) = 0) ok_X14_tie rfl q_cn (fun h2 => ?_) (fun h2 => ?_)
  · have hf := q_ip h2 hf
    refine q_blk 1 [] (c' := q_kc (t, r, m, z, N, ext, rx, L) I E 12 [some (.ref 520), some (.int x1), some (.int x2), some (.int x3)] [.int (0 : Int32)] [] []) ok_X14_tie rfl q_cn ?_
    cases hf
    exact q_kri ok_X14_tie rfl rfl rfl (Nat.le_of_ble_eq_true rfl) (Nat.le_of_ble_eq_true rfl) ⟨rfl, q_hpe (q_fin [527] rfl) (q_fin [] rfl)⟩
  · have hf := q_in h2 hf
    obtain ⟨j3, hj3, hf⟩ := q_bd hf
    refine q_blf 5 [j3] (a := q_kc (t, r, m, z, N, ext, rx, L) I E 13 [some (.ref 520), some (.int x1), some (.int x2), some (.int x3)] [] [] []) (b := q_kc (t, r, m, z, N, ext, rx, L) I E 11 [some (.ref 520), some (.int x1), some (.int x2), some (.int x3)] [] [] []) (P := ¬ ((I 521) j3) = (-1 : Int32)) ok_X14_tie rfl (q_cc hj3 q_cn) (fun h4 => ?_) (fun h4 => ?_)
    · have hf := q_ip h4 hf
      obtain ⟨j5, hj5, hf⟩ := q_bd hf
      obtain ⟨j6, hj6, hf⟩ := q_bd hf
      obtain ⟨j7, hj7, hf⟩ := q_bd hf
      refine q_blk 16 [j5, j6, j7] (c' := q_kc (t, r, m, z, N, ext, rx, L) I E 29 [some (.ref 520), some (.int x1), some (.int x2), some (.int x3)] [.int (1 : Int32)] [(527, (q_up (I 527) j7 ((I 521) j6)))] []) ok_X14_tie rfl (q_cc hj7 (q_cc hj6 (q_cc hj5 q_cn))) ?_
      cases hf
      exact q_kri ok_X14_tie rfl rfl rfl (Nat.le_of_ble_eq_true rfl) (Nat.le_of_ble_eq_true rfl) ⟨rfl, q_hpe (q_fin [527] rfl) (q_fin [] rfl)⟩
    · have hf := q_in h4 hf
      refine q_blk 1 [] (c' := q_kc (t, r, m, z, N, ext, rx, L) I E 12 [some (.ref 520), some (.int x1), some (.int x2), some (.int x3)] [.int (0 : Int32)] [] []) ok_X14_tie rfl q_cn ?_
      cases hf
      exact q_kri ok_X14_tie rfl rfl rfl (Nat.le_of_ble_eq_true rfl) (Nat.le_of_ble_eq_true rfl) ⟨rfl, q_hpe (q_fin [527] rfl) (q_fin [] rfl)⟩
set_option maxHeartbeats 4000000 in
theorem ct_X14_untie_520 {g : q_G} {t : Nat} {r : Nat} {m : Nat} {z : Nat} {N : Nat} {ext : Nat → q_Sh} {rx : Nat → Nat → Option Nat} {L : Nat → Nat → Int64} {d : Nat} (hd : 3 ≤ d)  {I : Nat → Nat → Int32} {E : Nat → Nat → Option Nat} {x1 : Int32} {x2 : Int32} {r0 : Bool × (Nat → Int32)} (hf : f_X14_untie (I 521) (I 525) (I 527) x1 x2 = some r0) : q_Ct g m_X14_untie d 0 0 [] [.ref 520, .int x1, .int x2] (q_hp (t, r, m, z, N, ext, rx, L) I E) (fun o h' => o = .inl (some (.int (q_bz r0.1))) ∧ h' = q_hp (t, r, m, z, N, ext, rx, L) (q_ws I [(527, r0.2)]) (q_ws E [])) := by
  rw [f_X14_untie] at hf
  refine q_Ct_of ok_X14_untie (Nat.le_of_ble_eq_true rfl) ?_ _ rfl rfl
  change q_J g m_X14_untie d 0 0 _ [] _ 0 0 (q_kc (t, r, m, z, N, ext, rx, L) I E 0 [some (.ref 520), some (.int x1), some (.int x2)] [] [] [])
  refine q_blk 3 [] (c' := q_kc (t, r, m, z, N, ext, rx, L) I E 3 [some (.ref 520), some (.int x1), some (.int x2)] [.int x2, .int x1, .ref 520] [] []) ok_X14_untie rfl q_cn ?_
  obtain ⟨r1, hr1, hf⟩ := q_bd hf
  refine q_kV (M2 := m_X14_hasRope) (As := [.int x1, .int x2]) (b := 520) (v2 := some (.int (q_bz r1))) ok_X14_untie ok_X14_hasRope cv_X14_hasRope (ct_X14_hasRope_520 (d := 2) (Nat.le_refl _) hr1) rfl rfl (Or.inl rfl) rfl rfl rfl rfl (Nat.le_trans (Nat.le_of_ble_eq_true rfl) hd) (Nat.le_of_ble_eq_true rfl) (Nat.le_of_ble_eq_true rfl) (Nat.le_of_ble_eq_true rfl) (fun x hx => absurd hx List.not_mem_nil) (q_nmL0 _) (q_nmS0 _) rfl (pos' := 4) (st' := [.int (q_bz r1)]) (lI' := []) (lE' := []) rfl rfl rfl rfl ?_
  refine q_blf 0 [] (a := q_kc (t, r, m, z, N, ext, rx, L) I E 7 [some (.ref 520), some (.int x1), some (.int x2)] [] [] []) (b := q_kc (t, r, m, z, N, ext, rx, L) I E 5 [some (.ref 520), some (.int x1), some (.int x2)] [] [] []) (P := ¬ (q_bz r1) = 0) ok_X14_untie rfl q_cn (fun h2 => ?_) (fun h2 => ?_)
  · have hf := q_ip h2 hf
    obtain ⟨j3, hj3, hf⟩ := q_bd hf
    obtain ⟨j4, hj4, hf⟩ := q_bd hf
    refine q_blk 13 [j3, j4] (c' := q_kc (t, r, m, z, N, ext, rx, L) I E 20 [some (.ref 520), some (.int x1), some (.int x2)] [.int (1 : Int32)] [(527, (q_up (I 527) j4 (-1 : Int32)))] []) ok_X14_untie rfl (q_cc hj4 (q_cc hj3 q_cn)) ?_
    cases hf
    exact q_kri ok_X14_untie rfl rfl rfl (Nat.le_of_ble_eq_true rfl) (Nat.le_of_ble_eq_true rfl) ⟨rfl, q_hpe (q_fin [527] rfl) (q_fin [] rfl)⟩
  · have hf := q_in h2 hf
    refine q_blk 1 [] (c' := q_kc (t, r, m, z, N, ext, rx, L) I E 6 [some (.ref 520), some (.int x1), some (.int x2)] [.int (0 : Int32)] [] []) ok_X14_untie rfl q_cn ?_
    cases hf
    exact q_kri ok_X14_untie rfl rfl rfl (Nat.le_of_ble_eq_true rfl) (Nat.le_of_ble_eq_true rfl) ⟨rfl, q_hpe (q_fin [527] rfl) (q_fin [] rfl)⟩
set_option maxHeartbeats 4000000 in
theorem ct_X14_leadsTo_520 {g : q_G} {t : Nat} {r : Nat} {m : Nat} {z : Nat} {N : Nat} {ext : Nat → q_Sh} {rx : Nat → Nat → Option Nat} {L : Nat → Nat → Int64} {d : Nat} (hd : 1 ≤ d)  {I : Nat → Nat → Int32} {E : Nat → Nat → Option Nat} {x1 : Int32} {x2 : Int32} {r0 : Int32} (hf : f_X14_leadsTo (I 521) (I 527) x1 x2 = some r0) : q_Ct g m_X14_leadsTo d 0 0 [] [.ref 520, .int x1, .int x2] (q_hp (t, r, m, z, N, ext, rx, L) I E) (fun o h' => o = .inl (some (.int r0)) ∧ h' = q_hp (t, r, m, z, N, ext, rx, L) (q_ws I []) (q_ws E [])) := by
  rw [f_X14_leadsTo] at hf
  refine q_Ct_of ok_X14_leadsTo (Nat.le_of_ble_eq_true rfl) ?_ _ rfl rfl
  change q_J g m_X14_leadsTo d 0 0 _ [] _ 0 0 (q_kc (t, r, m, z, N, ext, rx, L) I E 0 [some (.ref 520), some (.int x1), some (.int x2)] [] [] [])
  obtain ⟨j1, hj1, hf⟩ := q_bd hf
  obtain ⟨j2, hj2, hf⟩ := q_bd hf
  refine q_blk 11 [j1, j2] (c' := q_kc (t, r, m, z, N, ext, rx, L) I E 11 [some (.ref 520), some (.int x1), some (.int x2)] [.int ((I 527) j2)] [] []) ok_X14_leadsTo rfl (q_cc hj2 (q_cc hj1 q_cn)) ?_
  cases hf
  exact q_kri ok_X14_leadsTo rfl rfl rfl (Nat.le_of_ble_eq_true rfl) (Nat.le_of_ble_eq_true rfl) ⟨rfl, q_hpe (q_fin [] rfl) (q_fin [] rfl)⟩
set_option maxHeartbeats 4000000 in
theorem ct_X14_follow_520 {g : q_G} {t : Nat} {r : Nat} {m : Nat} {z : Nat} {N : Nat} {ext : Nat → q_Sh} {rx : Nat → Nat → Option Nat} {L : Nat → Nat → Int64} {d : Nat} (hd : 3 ≤ d)  {I : Nat → Nat → Int32} {E : Nat → Nat → Option Nat} {x1 : Int32} {x2 : Int32} {x3 : Int32} {r0 : Bool × (Nat → Int32)} (hf : f_X14_follow (I 521) (I 525) (I 527) x1 x2 x3 = some r0) : q_Ct g m_X14_follow d 0 0 [] [.ref 520, .int x1, .int x2, .int x3] (q_hp (t, r, m, z, N, ext, rx, L) I E) (fun o h' => o = .inl (some (.int (q_bz r0.1))) ∧ h' = q_hp (t, r, m, z, N, ext, rx, L) (q_ws I [(521, r0.2)]) (q_ws E [])) := by
  rw [f_X14_follow] at hf
  refine q_Ct_of ok_X14_follow (Nat.le_of_ble_eq_true rfl) ?_ _ rfl rfl
  change q_J g m_X14_follow d 0 0 _ [] _ 0 0 (q_kc (t, r, m, z, N, ext, rx, L) I E 0 [some (.ref 520), some (.int x1), some (.int x2), some (.int x3)] [] [] [])
  refine q_blk 3 [] (c' := q_kc (t, r, m, z, N, ext, rx, L) I E 3 [some (.ref 520), some (.int x1), some (.int x2), some (.int x3)] [.int x3, .int x2, .ref 520] [] []) ok_X14_follow rfl q_cn ?_
  obtain ⟨r1, hr1, hf⟩ := q_bd hf
  refine q_kV (M2 := m_X14_hasRope) (As := [.int x2, .int x3]) (b := 520) (v2 := some (.int (q_bz r1))) ok_X14_follow ok_X14_hasRope cv_X14_hasRope (ct_X14_hasRope_520 (d := 2) (Nat.le_refl _) hr1) rfl rfl (Or.inl rfl) rfl rfl rfl rfl (Nat.le_trans (Nat.le_of_ble_eq_true rfl) hd) (Nat.le_of_ble_eq_true rfl) (Nat.le_of_ble_eq_true rfl) (Nat.le_of_ble_eq_true rfl) (fun x hx => absurd hx List.not_mem_nil) (q_nmL0 _) (q_nmS0 _) rfl (pos' := 4) (st' := [.int (q_bz r1)]) (lI' := []) (lE' := []) rfl rfl rfl rfl ?_
  refine q_blf 0 [] (a := q_kc (t, r, m, z, N, ext, rx, L) I E 11 [some (.ref 520), some (.int x1), some (.int x2), some (.int x3)] [] [] []) (b := q_kc (t, r, m, z, N, ext, rx, L) I E 5 [some (.ref 520), some (.int x1), some (.int x2), some (.int x3)] [] [] []) (P := (q_bz r1) = 0) ok_X14_follow rfl q_cn (fun h2 => ?_) (fun h2 => ?_)
  · have hf := q_ip h2 hf
    refine q_blk 1 [] (c' := q_kc (t, r, m, z, N, ext, rx, L) I E 12 [some (.ref 520), some (.int x1), some (.int x2), some (.int x3)] [.int (0 : Int32)] [] []) ok_X14_follow rfl q_cn ?_
    cases hf
    exact q_kri ok_X14_follow rfl rfl rfl (Nat.le_of_ble_eq_true rfl) (Nat.le_of_ble_eq_true rfl) ⟨rfl, q_hpe (q_fin [521] rfl) (q_fin [] rfl)⟩
  · have hf := q_in h2 hf
    refine q_blk 3 [] (c' := q_kc (t, r, m, z, N, ext, rx, L) I E 8 [some (.ref 520), some (.int x1), some (.int x2), some (.int x3)] [.int x3, .int x2, .ref 520] [] []) ok_X14_follow rfl q_cn ?_
    obtain ⟨r3, hr3, hf⟩ := q_bd hf
    refine q_kV (M2 := m_X14_leadsTo) (As := [.int x2, .int x3]) (b := 520) (v2 := some (.int r3)) ok_X14_follow ok_X14_leadsTo cv_X14_leadsTo (ct_X14_leadsTo_520 (d := 1) (Nat.le_refl _) hr3) rfl rfl (Or.inl rfl) rfl rfl rfl rfl (Nat.le_trans (Nat.le_of_ble_eq_true rfl) hd) (Nat.le_of_ble_eq_true rfl) (Nat.le_of_ble_eq_true rfl) (Nat.le_of_ble_eq_true rfl) (fun x hx => absurd hx List.not_mem_nil) (q_nmL0 _) (q_nmS0 _) rfl (pos' := 9) (st' := [.int r3]) (lI' := []) (lE' := []) rfl rfl rfl rfl ?_
    refine q_blf 1 [] (a := q_kc (t, r, m, z, N, ext, rx, L) I E 13 [some (.ref 520), some (.int x1), some (.int x2), some (.int x3)] [] [] []) (b := q_kc (t, r, m, z, N, ext, rx, L) I E 11 [some (.ref 520), some (.int x1), some (.int x2), some (.int x3)] [] [] []) (P := ¬ r3 = (-1 : Int32)) ok_X14_follow rfl q_cn (fun h4 => ?_) (fun h4 => ?_)
    · have hf := q_ip h4 hf
      refine q_blk 6 [] (c' := q_kc (t, r, m, z, N, ext, rx, L) I E 19 [some (.ref 520), some (.int x1), some (.int x2), some (.int x3)] [.int x3, .int x2, .ref 520, .int x1, .ref 521] [] []) ok_X14_follow rfl q_cn ?_
      obtain ⟨r5, hr5, hf⟩ := q_bd hf
      refine q_kV (M2 := m_X14_leadsTo) (As := [.int x2, .int x3]) (b := 520) (v2 := some (.int r5)) ok_X14_follow ok_X14_leadsTo cv_X14_leadsTo (ct_X14_leadsTo_520 (d := 1) (Nat.le_refl _) hr5) rfl rfl (Or.inl rfl) rfl rfl rfl rfl (Nat.le_trans (Nat.le_of_ble_eq_true rfl) hd) (Nat.le_of_ble_eq_true rfl) (Nat.le_of_ble_eq_true rfl) (Nat.le_of_ble_eq_true rfl) (fun x hx => absurd hx List.not_mem_nil) (q_nmL0 _) (q_nmS0 _) rfl (pos' := 20) (st' := [.int r5, .int x1, .ref 521]) (lI' := []) (lE' := []) rfl rfl rfl rfl ?_
      obtain ⟨j6, hj6, hf⟩ := q_bd hf
      refine q_blk 2 [j6] (c' := q_kc (t, r, m, z, N, ext, rx, L) I E 22 [some (.ref 520), some (.int x1), some (.int x2), some (.int x3)] [.int (1 : Int32)] [(521, (q_up (I 521) j6 r5))] []) ok_X14_follow rfl (q_cc hj6 q_cn) ?_
      cases hf
      exact q_kri ok_X14_follow rfl rfl rfl (Nat.le_of_ble_eq_true rfl) (Nat.le_of_ble_eq_true rfl) ⟨rfl, q_hpe (q_fin [521] rfl) (q_fin [] rfl)⟩
    · have hf := q_in h4 hf
      refine q_blk 1 [] (c' := q_kc (t, r, m, z, N, ext, rx, L) I E 12 [some (.ref 520), some (.int x1), some (.int x2), some (.int x3)] [.int (0 : Int32)] [] []) ok_X14_follow rfl q_cn ?_
      cases hf
      exact q_kri ok_X14_follow rfl rfl rfl (Nat.le_of_ble_eq_true rfl) (Nat.le_of_ble_eq_true rfl) ⟨rfl, q_hpe (q_fin [521] rfl) (q_fin [] rfl)⟩
set_option maxHeartbeats 4000000 in
theorem ct_X14_drop_520 {g : q_G} {t : Nat} {r : Nat} {m : Nat} {z : Nat} {N : Nat} {ext : Nat → q_Sh} {rx : Nat → Nat → Option Nat} {L : Nat → Nat → Int64} {d : Nat} (hd : 1 ≤ d)  {I : Nat → Nat → Int32} {E : Nat → Nat → Option Nat} {x1 : Int32} {r0 : Bool × (Nat → Int32)} (hf : f_X14_drop (I 521) x1 = some r0) : q_Ct g m_X14_drop d 0 0 [] [.ref 520, .int x1] (q_hp (t, r, m, z, N, ext, rx, L) I E) (fun o h' => o = .inl (some (.int (q_bz r0.1))) ∧ h' = q_hp (t, r, m, z, N, ext, rx, L) (q_ws I [(521, r0.2)]) (q_ws E [])) := by
  rw [f_X14_drop] at hf
  refine q_Ct_of ok_X14_drop (Nat.le_of_ble_eq_true rfl) ?_ _ rfl rfl
  change q_J g m_X14_drop d 0 0 _ [] _ 0 0 (q_kc (t, r, m, z, N, ext, rx, L) I E 0 [some (.ref 520), some (.int x1)] [] [] [])
  obtain ⟨j1, hj1, hf⟩ := q_bd hf
  refine q_blf 5 [j1] (a := q_kc (t, r, m, z, N, ext, rx, L) I E 8 [some (.ref 520), some (.int x1)] [] [] []) (b := q_kc (t, r, m, z, N, ext, rx, L) I E 6 [some (.ref 520), some (.int x1)] [] [] []) (P := ¬ ((I 521) j1) = (-1 : Int32)) ok_X14_drop rfl (q_cc hj1 q_cn) (fun h2 => ?_) (fun h2 => ?_)
  · have hf := q_ip h2 hf
    obtain ⟨j3, hj3, hf⟩ := q_bd hf
    refine q_blk 6 [j3] (c' := q_kc (t, r, m, z, N, ext, rx, L) I E 14 [some (.ref 520), some (.int x1)] [.int (1 : Int32)] [(521, (q_up (I 521) j3 (-1 : Int32)))] []) ok_X14_drop rfl (q_cc hj3 q_cn) ?_
    cases hf
    exact q_kri ok_X14_drop rfl rfl rfl (Nat.le_of_ble_eq_true rfl) (Nat.le_of_ble_eq_true rfl) ⟨rfl, q_hpe (q_fin [521] rfl) (q_fin [] rfl)⟩
  · have hf := q_in h2 hf
    refine q_blk 1 [] (c' := q_kc (t, r, m, z, N, ext, rx, L) I E 7 [some (.ref 520), some (.int x1)] [.int (0 : Int32)] [] []) ok_X14_drop rfl q_cn ?_
    cases hf
    exact q_kri ok_X14_drop rfl rfl rfl (Nat.le_of_ble_eq_true rfl) (Nat.le_of_ble_eq_true rfl) ⟨rfl, q_hpe (q_fin [521] rfl) (q_fin [] rfl)⟩
set_option maxHeartbeats 4000000 in
theorem ct_X14_isDone_520 {g : q_G} {t : Nat} {r : Nat} {m : Nat} {ext : Nat → q_Sh} {rx : Nat → Nat → Option Nat} {L : Nat → Nat → Int64} {d : Nat} (hd : 8 ≤ d)  {I : Nat → Nat → Int32} {E : Nat → Nat → Option Nat} {x1 : Int32} {r0 : Bool × (Nat → Int32) × (Nat → Int32) × (Nat → Int32) × (Nat → Int32) × (Nat → Int32) × (Nat → Int32) × (Nat → Int32) × (Nat → Int32) × (Nat → Int32) × (Nat → Int32) × (Nat → Int32) × (Nat → Int32)} (hf : f_X14_isDone (I 492) (I 499) (I 500) (I 501) (I 502) (I 503) (I 504) (I 505) (I 507) (I 509) (I 510) (I 511) (I 520) (I 521) (I 522) (I 523) (I 524) (I 525) (I 526) (I 527) x1 = some r0) : q_Ct g m_X14_isDone d 1 136 [] [.ref 520, .int x1] (q_hp (t, r, m, 499, 529, ext, rx, L) I E) (fun o h' => o = .inl (some (.int (q_bz r0.1))) ∧ h' = q_hp (t, r, m, 499, 529, ext, rx, L) (q_ws I [(492, r0.2.1), (509, r0.2.2.1), (510, r0.2.2.2.1), (511, r0.2.2.2.2.1), (520, r0.2.2.2.2.2.1), (521, r0.2.2.2.2.2.2.1), (522, r0.2.2.2.2.2.2.2.1), (523, r0.2.2.2.2.2.2.2.2.1), (524, r0.2.2.2.2.2.2.2.2.2.1), (525, r0.2.2.2.2.2.2.2.2.2.2.1), (526, r0.2.2.2.2.2.2.2.2.2.2.2.1), (527, r0.2.2.2.2.2.2.2.2.2.2.2.2)]) (q_ws E [])) := by
  rw [f_X14_isDone] at hf
  refine q_Ct_of ok_X14_isDone (Nat.le_of_ble_eq_true rfl) ?_ _ rfl rfl
  change q_J g m_X14_isDone d 1 136 _ [] _ 0 0 (q_kc (t, r, m, 499, 529, ext, rx, L) I E 0 [some (.ref 520), some (.int x1)] [] [] [])
  obtain ⟨j1, hj1, hf⟩ := q_bd hf
  refine q_blk 6 [j1] (c' := q_kc (t, r, m, 499, 529, ext, rx, L) I E 6 [some (.ref 520), some (.int x1)] [.int ((I 500) j1)] [] []) ok_X14_isDone rfl (q_cc hj1 q_cn) ?_
  refine q_ksw [7, 97, 97, 40, 97, 97, 61, 76] ok_X14_isDone rfl (dp := 97) rfl (fun ix t9 ht9 hx9 => ?_) (fun hx9 => ?_) (by decide) (by decide)
  · match ix, ht9 with
    | 0, ht9 =>
      have hx9 : ((I 500) j1) = 4 := hx9
      cases ht9
      have hf := q_ip hx9 hf
      obtain ⟨j2, hj2, hf⟩ := q_bd hf
      obtain ⟨j3, hj3, hf⟩ := q_bd hf
      obtain ⟨j4, hj4, hf⟩ := q_bd hf
      refine q_blk 22 [j2, j3, j4] (c' := q_kc (t, r, m, 499, 529, ext, rx, L) I E 29 [some (.ref 520), some (.int x1)] [.int ((I 505) j4), .int ((I 504) j3), .ref 520, .int (9 : Int32), .int (1 : Int32), .int ((I 501) j2), .ref 520] [] []) ok_X14_isDone rfl (q_cc hj4 (q_cc hj3 (q_cc hj2 q_cn))) ?_
      obtain ⟨r5, hr5, hf⟩ := q_bd hf
      refine q_kV (M2 := m_X14_carryOut) (As := [.int ((I 504) j3), .int ((I 505) j4)]) (b := 520) (v2 := some (.int r5.1)) ok_X14_isDone ok_X14_carryOut cv_X14_carryOut (ct_X14_carryOut_520 (d := 4) (Nat.le_refl _) hr5) rfl rfl (Or.inl rfl) rfl rfl rfl rfl (Nat.le_trans (Nat.le_of_ble_eq_true rfl) hd) (Nat.le_of_ble_eq_true rfl) (Nat.le_of_ble_eq_true rfl) (Nat.le_of_ble_eq_true rfl) (fun x hx => absurd hx List.not_mem_nil) (q_nmL0 _) (q_nmS0 _) rfl (pos' := 30) (st' := [.int r5.1, .int (9 : Int32), .int (1 : Int32), .int ((I 501) j2), .ref 520]) (lI' := [(509, r5.2)]) (lE' := []) rfl rfl rfl rfl ?_
      refine q_kmn (pos' := 31) ok_X14_isDone rfl rfl (Nat.le_trans (Nat.le_of_ble_eq_true rfl) hd) (Nat.le_of_ble_eq_true rfl) (Nat.le_of_ble_eq_true rfl) (Nat.le_of_ble_eq_true rfl) rfl ?_
      refine q_kmx (pos' := 32) ok_X14_isDone rfl rfl (Nat.le_trans (Nat.le_of_ble_eq_true rfl) hd) (Nat.le_of_ble_eq_true rfl) (Nat.le_of_ble_eq_true rfl) (Nat.le_of_ble_eq_true rfl) rfl ?_
      obtain ⟨j6, hj6, hf⟩ := q_bd hf
      refine q_blk 6 [j6] (c' := q_kc (t, r, m, 499, 529, ext, rx, L) I E 38 [some (.ref 520), some (.int x1)] [.int ((I 503) j6), .int (q_max (1 : Int32) (q_min (9 : Int32) r5.1)), .int ((I 501) j2), .ref 520] [(509, r5.2)] []) ok_X14_isDone rfl (q_cc hj6 q_cn) ?_
      obtain ⟨r7, hr7, hf⟩ := q_bd hf
      refine q_kV (M2 := m_X14_make) (As := [.int ((I 501) j2), .int (q_max (1 : Int32) (q_min (9 : Int32) r5.1)), .int ((I 503) j6)]) (b := 520) (v2 := some (.int (q_bz r7.1))) ok_X14_isDone ok_X14_make cv_X14_make (ct_X14_make_520 (d := 7) (Nat.le_refl _) hr7) rfl rfl (Or.inl rfl) rfl rfl rfl rfl (Nat.le_trans (Nat.le_of_ble_eq_true rfl) hd) (Nat.le_of_ble_eq_true rfl) (Nat.le_of_ble_eq_true rfl) (Nat.le_of_ble_eq_true rfl) (fun x hx => absurd hx List.not_mem_nil) (q_nmL0 _) (q_nmS0 _) rfl (pos' := 39) (st' := [.int (q_bz r7.1)]) (lI' := [(492, r7.2.1), (509, r5.2), (510, r7.2.2.1), (511, r7.2.2.2.1), (520, r7.2.2.2.2.1), (521, r7.2.2.2.2.2.1), (522, r7.2.2.2.2.2.2.1), (523, r7.2.2.2.2.2.2.2.1), (524, r7.2.2.2.2.2.2.2.2.1), (525, r7.2.2.2.2.2.2.2.2.2.1), (526, r7.2.2.2.2.2.2.2.2.2.2.1), (527, r7.2.2.2.2.2.2.2.2.2.2.2)]) (lE' := []) rfl rfl rfl rfl ?_
      cases hf
      exact q_kri ok_X14_isDone rfl rfl (q_bz_nr _) (Nat.le_of_ble_eq_true rfl) (Nat.le_of_ble_eq_true rfl) ⟨rfl, q_hpe (q_fin [492, 509, 510, 511, 520, 521, 522, 523, 524, 525, 526, 527] rfl) (q_fin [] rfl)⟩
    | 1, ht9 =>
      have hx9 : ((I 500) j1) = 5 := hx9
      cases ht9
      have hf := q_in (fun hz9 => absurd (hx9.symm.trans hz9) (by decide)) hf
      have hf := q_ip hx9 hf
      obtain ⟨j8, hj8, hf⟩ := q_bd hf
      refine q_blk 7 [j8] (c' := q_kc (t, r, m, 499, 529, ext, rx, L) I E 104 [some (.ref 520), some (.int x1)] [.int ((I 501) j8), .ref 520] [] []) ok_X14_isDone rfl (q_cc hj8 q_cn) ?_
      obtain ⟨r9, hr9, hf⟩ := q_bd hf
      refine q_kV (M2 := m_X14_drop) (As := [.int ((I 501) j8)]) (b := 520) (v2 := some (.int (q_bz r9.1))) ok_X14_isDone ok_X14_drop cv_X14_drop (ct_X14_drop_520 (d := 1) (Nat.le_refl _) hr9) rfl rfl (Or.inl rfl) rfl rfl rfl rfl (Nat.le_trans (Nat.le_of_ble_eq_true rfl) hd) (Nat.le_of_ble_eq_true rfl) (Nat.le_of_ble_eq_true rfl) (Nat.le_of_ble_eq_true rfl) (fun x hx => absurd hx List.not_mem_nil) (q_nmL0 _) (q_nmS0 _) rfl (pos' := 105) (st' := [.int (q_bz r9.1)]) (lI' := [(521, r9.2)]) (lE' := []) rfl rfl rfl rfl ?_
      cases hf
      exact q_kri ok_X14_isDone rfl rfl (q_bz_nr _) (Nat.le_of_ble_eq_true rfl) (Nat.le_of_ble_eq_true rfl) ⟨rfl, q_hpe (q_fin [492, 509, 510, 511, 520, 521, 522, 523, 524, 525, 526, 527] rfl) (q_fin [] rfl)⟩
    | 2, ht9 =>
      have hx9 : ((I 500) j1) = 6 := hx9
      cases ht9
      have hf := q_in (fun hz9 => absurd (hx9.symm.trans hz9) (by decide)) hf
      have hf := q_in (fun hz9 => absurd (hx9.symm.trans hz9) (by decide)) hf
      have hf := q_ip hx9 hf
      obtain ⟨j10, hj10, hf⟩ := q_bd hf
      refine q_blk 7 [j10] (c' := q_kc (t, r, m, 499, 529, ext, rx, L) I E 104 [some (.ref 520), some (.int x1)] [.int ((I 501) j10), .ref 520] [] []) ok_X14_isDone rfl (q_cc hj10 q_cn) ?_
      obtain ⟨r11, hr11, hf⟩ := q_bd hf
      refine q_kV (M2 := m_X14_drop) (As := [.int ((I 501) j10)]) (b := 520) (v2 := some (.int (q_bz r11.1))) ok_X14_isDone ok_X14_drop cv_X14_drop (ct_X14_drop_520 (d := 1) (Nat.le_refl _) hr11) rfl rfl (Or.inl rfl) rfl rfl rfl rfl (Nat.le_trans (Nat.le_of_ble_eq_true rfl) hd) (Nat.le_of_ble_eq_true rfl) (Nat.le_of_ble_eq_true rfl) (Nat.le_of_ble_eq_true rfl) (fun x hx => absurd hx List.not_mem_nil) (q_nmL0 _) (q_nmS0 _) rfl (pos' := 105) (st' := [.int (q_bz r11.1)]) (lI' := [(521, r11.2)]) (lE' := []) rfl rfl rfl rfl ?_
      cases hf
      exact q_kri ok_X14_isDone rfl rfl (q_bz_nr _) (Nat.le_of_ble_eq_true rfl) (Nat.le_of_ble_eq_true rfl) ⟨rfl, q_hpe (q_fin [492, 509, 510, 511, 520, 521, 522, 523, 524, 525, 526, 527] rfl) (q_fin [] rfl)⟩
    | 3, ht9 =>
      have hx9 : ((I 500) j1) = 7 := hx9
      cases ht9
      have hf := q_in (fun hz9 => absurd (hx9.symm.trans hz9) (by decide)) hf
      have hf := q_in (fun hz9 => absurd (hx9.symm.trans hz9) (by decide)) hf
      have hf := q_in (fun hz9 => absurd (hx9.symm.trans hz9) (by decide)) hf
      have hf := q_ip hx9 hf
      obtain ⟨j12, hj12, hf⟩ := q_bd hf
      obtain ⟨j13, hj13, hf⟩ := q_bd hf
      obtain ⟨j14, hj14, hf⟩ := q_bd hf
      refine q_blk 19 [j12, j13, j14] (c' := q_kc (t, r, m, 499, 529, ext, rx, L) I E 59 [some (.ref 520), some (.int x1)] [.int ((I 502) j14), .int ((I 503) j13), .int ((I 501) j12), .ref 520] [] []) ok_X14_isDone rfl (q_cc hj14 (q_cc hj13 (q_cc hj12 q_cn))) ?_
      obtain ⟨r15, hr15, hf⟩ := q_bd hf
      refine q_kV (M2 := m_X14_tie) (As := [.int ((I 501) j12), .int ((I 503) j13), .int ((I 502) j14)]) (b := 520) (v2 := some (.int (q_bz r15.1))) ok_X14_isDone ok_X14_tie cv_X14_tie (ct_X14_tie_520 (d := 3) (Nat.le_refl _) hr15) rfl rfl (Or.inl rfl) rfl rfl rfl rfl (Nat.le_trans (Nat.le_of_ble_eq_true rfl) hd) (Nat.le_of_ble_eq_true rfl) (Nat.le_of_ble_eq_true rfl) (Nat.le_of_ble_eq_true rfl) (fun x hx => absurd hx List.not_mem_nil) (q_nmL0 _) (q_nmS0 _) rfl (pos' := 60) (st' := [.int (q_bz r15.1)]) (lI' := [(527, r15.2)]) (lE' := []) rfl rfl rfl rfl ?_
      cases hf
      exact q_kri ok_X14_isDone rfl rfl (q_bz_nr _) (Nat.le_of_ble_eq_true rfl) (Nat.le_of_ble_eq_true rfl) ⟨rfl, q_hpe (q_fin [492, 509, 510, 511, 520, 521, 522, 523, 524, 525, 526, 527] rfl) (q_fin [] rfl)⟩
    | 4, ht9 =>
      have hx9 : ((I 500) j1) = 8 := hx9
      cases ht9
      have hf := q_in (fun hz9 => absurd (hx9.symm.trans hz9) (by decide)) hf
      have hf := q_in (fun hz9 => absurd (hx9.symm.trans hz9) (by decide)) hf
      have hf := q_in (fun hz9 => absurd (hx9.symm.trans hz9) (by decide)) hf
      have hf := q_in (fun hz9 => absurd (hx9.symm.trans hz9) (by decide)) hf
      have hf := q_ip hx9 hf
      obtain ⟨j16, hj16, hf⟩ := q_bd hf
      refine q_blk 7 [j16] (c' := q_kc (t, r, m, 499, 529, ext, rx, L) I E 104 [some (.ref 520), some (.int x1)] [.int ((I 501) j16), .ref 520] [] []) ok_X14_isDone rfl (q_cc hj16 q_cn) ?_
      obtain ⟨r17, hr17, hf⟩ := q_bd hf
      refine q_kV (M2 := m_X14_drop) (As := [.int ((I 501) j16)]) (b := 520) (v2 := some (.int (q_bz r17.1))) ok_X14_isDone ok_X14_drop cv_X14_drop (ct_X14_drop_520 (d := 1) (Nat.le_refl _) hr17) rfl rfl (Or.inl rfl) rfl rfl rfl rfl (Nat.le_trans (Nat.le_of_ble_eq_true rfl) hd) (Nat.le_of_ble_eq_true rfl) (Nat.le_of_ble_eq_true rfl) (Nat.le_of_ble_eq_true rfl) (fun x hx => absurd hx List.not_mem_nil) (q_nmL0 _) (q_nmS0 _) rfl (pos' := 105) (st' := [.int (q_bz r17.1)]) (lI' := [(521, r17.2)]) (lE' := []) rfl rfl rfl rfl ?_
      cases hf
      exact q_kri ok_X14_isDone rfl rfl (q_bz_nr _) (Nat.le_of_ble_eq_true rfl) (Nat.le_of_ble_eq_true rfl) ⟨rfl, q_hpe (q_fin [492, 509, 510, 511, 520, 521, 522, 523, 524, 525, 526, 527] rfl) (q_fin [] rfl)⟩
    | 5, ht9 =>
      have hx9 : ((I 500) j1) = 9 := hx9
      cases ht9
      have hf := q_in (fun hz9 => absurd (hx9.symm.trans hz9) (by decide)) hf
      have hf := q_in (fun hz9 => absurd (hx9.symm.trans hz9) (by decide)) hf
      have hf := q_in (fun hz9 => absurd (hx9.symm.trans hz9) (by decide)) hf
      have hf := q_in (fun hz9 => absurd (hx9.symm.trans hz9) (by decide)) hf
      have hf := q_in (fun hz9 => absurd (hx9.symm.trans hz9) (by decide)) hf
      have hf := q_ip hx9 hf
      obtain ⟨j18, hj18, hf⟩ := q_bd hf
      refine q_blk 7 [j18] (c' := q_kc (t, r, m, 499, 529, ext, rx, L) I E 104 [some (.ref 520), some (.int x1)] [.int ((I 501) j18), .ref 520] [] []) ok_X14_isDone rfl (q_cc hj18 q_cn) ?_
      obtain ⟨r19, hr19, hf⟩ := q_bd hf
      refine q_kV (M2 := m_X14_drop) (As := [.int ((I 501) j18)]) (b := 520) (v2 := some (.int (q_bz r19.1))) ok_X14_isDone ok_X14_drop cv_X14_drop (ct_X14_drop_520 (d := 1) (Nat.le_refl _) hr19) rfl rfl (Or.inl rfl) rfl rfl rfl rfl (Nat.le_trans (Nat.le_of_ble_eq_true rfl) hd) (Nat.le_of_ble_eq_true rfl) (Nat.le_of_ble_eq_true rfl) (Nat.le_of_ble_eq_true rfl) (fun x hx => absurd hx List.not_mem_nil) (q_nmL0 _) (q_nmS0 _) rfl (pos' := 105) (st' := [.int (q_bz r19.1)]) (lI' := [(521, r19.2)]) (lE' := []) rfl rfl rfl rfl ?_
      cases hf
      exact q_kri ok_X14_isDone rfl rfl (q_bz_nr _) (Nat.le_of_ble_eq_true rfl) (Nat.le_of_ble_eq_true rfl) ⟨rfl, q_hpe (q_fin [492, 509, 510, 511, 520, 521, 522, 523, 524, 525, 526, 527] rfl) (q_fin [] rfl)⟩
    | 6, ht9 =>
      have hx9 : ((I 500) j1) = 10 := hx9
      cases ht9
      have hf := q_in (fun hz9 => absurd (hx9.symm.trans hz9) (by decide)) hf
      have hf := q_in (fun hz9 => absurd (hx9.symm.trans hz9) (by decide)) hf
      have hf := q_in (fun hz9 => absurd (hx9.symm.trans hz9) (by decide)) hf
      have hf := q_in (fun hz9 => absurd (hx9.symm.trans hz9) (by decide)) hf
      have hf := q_in (fun hz9 => absurd (hx9.symm.trans hz9) (by decide)) hf
      have hf := q_in (fun hz9 => absurd (hx9.symm.trans hz9) (by decide)) hf
      have hf := q_ip hx9 hf
      obtain ⟨j20, hj20, hf⟩ := q_bd hf
      obtain ⟨j21, hj21, hf⟩ := q_bd hf
      refine q_blk 13 [j20, j21] (c' := q_kc (t, r, m, 499, 529, ext, rx, L) I E 74 [some (.ref 520), some (.int x1)] [.int ((I 503) j21), .int ((I 501) j20), .ref 520] [] []) ok_X14_isDone rfl (q_cc hj21 (q_cc hj20 q_cn)) ?_
      obtain ⟨r22, hr22, hf⟩ := q_bd hf
      refine q_kV (M2 := m_X14_untie) (As := [.int ((I 501) j20), .int ((I 503) j21)]) (b := 520) (v2 := some (.int (q_bz r22.1))) ok_X14_isDone ok_X14_untie cv_X14_untie (ct_X14_untie_520 (d := 3) (Nat.le_refl _) hr22) rfl rfl (Or.inl rfl) rfl rfl rfl rfl (Nat.le_trans (Nat.le_of_ble_eq_true rfl) hd) (Nat.le_of_ble_eq_true rfl) (Nat.le_of_ble_eq_true rfl) (Nat.le_of_ble_eq_true rfl) (fun x hx => absurd hx List.not_mem_nil) (q_nmL0 _) (q_nmS0 _) rfl (pos' := 75) (st' := [.int (q_bz r22.1)]) (lI' := [(527, r22.2)]) (lE' := []) rfl rfl rfl rfl ?_
      cases hf
      exact q_kri ok_X14_isDone rfl rfl (q_bz_nr _) (Nat.le_of_ble_eq_true rfl) (Nat.le_of_ble_eq_true rfl) ⟨rfl, q_hpe (q_fin [492, 509, 510, 511, 520, 521, 522, 523, 524, 525, 526, 527] rfl) (q_fin [] rfl)⟩
    | 7, ht9 =>
      have hx9 : ((I 500) j1) = 11 := hx9
      cases ht9
      have hf := q_in (fun hz9 => absurd (hx9.symm.trans hz9) (by decide)) hf
      have hf := q_in (fun hz9 => absurd (hx9.symm.trans hz9) (by decide)) hf
      have hf := q_in (fun hz9 => absurd (hx9.symm.trans hz9) (by decide)) hf
      have hf := q_in (fun hz9 => absurd (hx9.symm.trans hz9) (by decide)) hf
      have hf := q_in (fun hz9 => absurd (hx9.symm.trans hz9) (by decide)) hf
      have hf := q_in (fun hz9 => absurd (hx9.symm.trans hz9) (by decide)) hf
      have hf := q_in (fun hz9 => absurd (hx9.symm.trans hz9) (by decide)) hf
      have hf := q_ip hx9 hf
      obtain ⟨j23, hj23, hf⟩ := q_bd hf
      obtain ⟨j24, hj24, hf⟩ := q_bd hf
      obtain ⟨j25, hj25, hf⟩ := q_bd hf
      refine q_blk 19 [j23, j24, j25] (c' := q_kc (t, r, m, 499, 529, ext, rx, L) I E 95 [some (.ref 520), some (.int x1)] [.int ((I 503) j25), .int ((I 502) j24), .int ((I 501) j23), .ref 520] [] []) ok_X14_isDone rfl (q_cc hj25 (q_cc hj24 (q_cc hj23 q_cn))) ?_
      obtain ⟨r26, hr26, hf⟩ := q_bd hf
      refine q_kV (M2 := m_X14_follow) (As := [.int ((I 501) j23), .int ((I 502) j24), .int ((I 503) j25)]) (b := 520) (v2 := some (.int (q_bz r26.1))) ok_X14_isDone ok_X14_follow cv_X14_follow (ct_X14_follow_520 (d := 3) (Nat.le_refl _) hr26) rfl rfl (Or.inl rfl) rfl rfl rfl rfl (Nat.le_trans (Nat.le_of_ble_eq_true rfl) hd) (Nat.le_of_ble_eq_true rfl) (Nat.le_of_ble_eq_true rfl) (Nat.le_of_ble_eq_true rfl) (fun x hx => absurd hx List.not_mem_nil) (q_nmL0 _) (q_nmS0 _) rfl (pos' := 96) (st' := [.int (q_bz r26.1)]) (lI' := [(521, r26.2)]) (lE' := []) rfl rfl rfl rfl ?_
      cases hf
      exact q_kri ok_X14_isDone rfl rfl (q_bz_nr _) (Nat.le_of_ble_eq_true rfl) (Nat.le_of_ble_eq_true rfl) ⟨rfl, q_hpe (q_fin [492, 509, 510, 511, 520, 521, 522, 523, 524, 525, 526, 527] rfl) (q_fin [] rfl)⟩
    | z9 + 8, ht9 => cases ht9
  · have hf := q_in (hx9 0 (by decide)) hf
    have hf := q_in (hx9 1 (by decide)) hf
    have hf := q_in (hx9 2 (by decide)) hf
    have hf := q_in (hx9 3 (by decide)) hf
    have hf := q_in (hx9 4 (by decide)) hf
    have hf := q_in (hx9 5 (by decide)) hf
    have hf := q_in (hx9 6 (by decide)) hf
    have hf := q_in (hx9 7 (by decide)) hf
    obtain ⟨j27, hj27, hf⟩ := q_bd hf
    refine q_blk 7 [j27] (c' := q_kc (t, r, m, 499, 529, ext, rx, L) I E 104 [some (.ref 520), some (.int x1)] [.int ((I 501) j27), .ref 520] [] []) ok_X14_isDone rfl (q_cc hj27 q_cn) ?_
    obtain ⟨r28, hr28, hf⟩ := q_bd hf
    refine q_kV (M2 := m_X14_drop) (As := [.int ((I 501) j27)]) (b := 520) (v2 := some (.int (q_bz r28.1))) ok_X14_isDone ok_X14_drop cv_X14_drop (ct_X14_drop_520 (d := 1) (Nat.le_refl _) hr28) rfl rfl (Or.inl rfl) rfl rfl rfl rfl (Nat.le_trans (Nat.le_of_ble_eq_true rfl) hd) (Nat.le_of_ble_eq_true rfl) (Nat.le_of_ble_eq_true rfl) (Nat.le_of_ble_eq_true rfl) (fun x hx => absurd hx List.not_mem_nil) (q_nmL0 _) (q_nmS0 _) rfl (pos' := 105) (st' := [.int (q_bz r28.1)]) (lI' := [(521, r28.2)]) (lE' := []) rfl rfl rfl rfl ?_
    cases hf
    exact q_kri ok_X14_isDone rfl rfl (q_bz_nr _) (Nat.le_of_ble_eq_true rfl) (Nat.le_of_ble_eq_true rfl) ⟨rfl, q_hpe (q_fin [492, 509, 510, 511, 520, 521, 522, 523, 524, 525, 526, 527] rfl) (q_fin [] rfl)⟩
