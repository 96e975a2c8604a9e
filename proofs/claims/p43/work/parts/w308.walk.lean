set_option maxHeartbeats 4000000 in
theorem lp_X3_goOn_L4_489_457 {g : q_G} {d mc ms : Nat} {h0 : q_H} {Q : (Option Value ⊕ String) → q_H → Prop} {k n : Nat} {t : Nat} {r : Nat} {m : Nat} {ext : Nat → q_Sh} {rx : Nat → Nat → Option Nat} {L : Nat → Nat → Int64} (hd : 7 ≤ d) (hk : k ≤ mc) (hn : n ≤ ms)  {T1 : Nat → Nat → Int32} {K1 : Nat → Nat → Option Nat} {v2 : Int32} : ∀ (fu : Nat) {I : Nat → Nat → Int32} {E : Nat → Nat → Option Nat} {v3 : Int32} {v4 : Int32} {r0 : Int32 × (Nat → Int32) × (Nat → Int32) × (Nat → Int32) × (Nat → Int32) × (Nat → Int32) × (Nat → Int32) × (Nat → Int32) × (Nat → Int32) × (Nat → Int32) × (Nat → Int32) × (Nat → Int32) × (Nat → Int32) × (Nat → Int32) × (Nat → Int32) × (Nat → Int32) × (Nat → Int32) × (Nat → Int32)} (hf : f_X3_goOn_L4 (I 402) (I 405) (E 404) T1 K1 v2 fu (I 457) (I 459) (I 460) (I 461) (I 462) (I 463) (I 464) (I 465) (I 466) (I 467) (I 468) (I 469) (I 470) (I 471) (I 472) (I 490) (I 491) v3 v4 = some r0) (hTa : T1 = q_tR I 406) (hKa : K1 = q_tR E 406) (hK0 : q_J g m_X3_goOn d mc ms h0 [471, 472] Q k n (q_kc (t, r, m, 499, 492, ext, rx, L) I E 14 [none, none, none, some (.int r0.1), none] [] [(457, r0.2.1), (459, r0.2.2.1), (460, r0.2.2.2.1), (461, r0.2.2.2.2.1), (462, r0.2.2.2.2.2.1), (463, r0.2.2.2.2.2.2.1), (464, r0.2.2.2.2.2.2.2.1), (465, r0.2.2.2.2.2.2.2.2.1), (466, r0.2.2.2.2.2.2.2.2.2.1), (467, r0.2.2.2.2.2.2.2.2.2.2.1), (468, r0.2.2.2.2.2.2.2.2.2.2.2.1), (469, r0.2.2.2.2.2.2.2.2.2.2.2.2.1), (470, r0.2.2.2.2.2.2.2.2.2.2.2.2.2.1), (471, r0.2.2.2.2.2.2.2.2.2.2.2.2.2.2.1), (472, r0.2.2.2.2.2.2.2.2.2.2.2.2.2.2.2.1), (490, r0.2.2.2.2.2.2.2.2.2.2.2.2.2.2.2.2.1), (491, r0.2.2.2.2.2.2.2.2.2.2.2.2.2.2.2.2.2)] [])), q_J g m_X3_goOn d mc ms h0 [471, 472] Q k n (4, [some (.ref 489), some (.ref 457), some (.int v2), some (.int v3), some (.int v4)], [], q_hp (t, r, m, 499, 492, ext, rx, L) I E) := by
  intro fu
  induction fu with
  | zero =>
    intro I E v3 v4 r0 hf hTa hKa hK0
    rw [f_X3_goOn_L4] at hf
    cases hf
  | succ fu ih =>
    intro I E v3 v4 r0 hf hTa hKa hK0
    rw [f_X3_goOn_L4] at hf
    change q_J g m_X3_goOn d mc ms h0 [471, 472] Q k n (q_kc (t, r, m, 499, 492, ext, rx, L) I E 4 [some (.ref 489), some (.ref 457), some (.int v2), some (.int v3), some (.int v4)] [] [] [])
    refine q_blf 2 [] (a := q_kc (t, r, m, 499, 492, ext, rx, L) I E 14 [some (.ref 489), some (.ref 457), some (.int v2), some (.int v3), some (.int v4)] [] [] []) (b := q_kc (t, r, m, 499, 492, ext, rx, L) I E 7 [some (.ref 489), some (.ref 457), some (.int v2), some (.int v3), some (.int v4)] [] [] []) (P := v2 ≤ v4) ok_X3_goOn rfl q_cn (fun h1 => ?_) (fun h1 => ?_)
    · have hf := q_ip h1 hf
      refine q_less (ls' := [none, none, none, some (.int v3), none]) (q_sb1 (q_sb1 (q_sb1 (q_sb2 (q_sb1 q_sb0))))) ?_
      cases hf
      exact q_Jpad (q_pdw [457, 459, 460, 461, 462, 463, 464, 465, 466, 467, 468, 469, 470, 471, 472, 490, 491] rfl rfl) (q_pdw [] rfl rfl) hK0
    · have hf := q_in h1 hf
      refine q_blk 2 [] (c' := q_kc (t, r, m, 499, 492, ext, rx, L) I E 9 [some (.ref 489), some (.ref 457), some (.int v2), some (.int v3), some (.int v4)] [.ref 457, .ref 489] [] []) ok_X3_goOn rfl q_cn ?_
      obtain ⟨r2, hr2, hf⟩ := q_bd hf
      refine q_kV (M2 := m_X3_passNext) (As := [.ref 457]) (b := 489) (v2 := some (.int (q_bz r2.1))) ok_X3_goOn ok_X3_passNext cv_X3_passNext (ct_X3_passNext_489_457 (d := 6) (Nat.le_refl _) hr2 (q_tRe rfl hTa) (q_tRe rfl hKa)) rfl rfl (Or.inl rfl) rfl rfl rfl rfl (Nat.le_trans (Nat.le_of_ble_eq_true rfl) hd) hk hn (Nat.le_of_ble_eq_true rfl) (fun x hx => hx) rfl rfl rfl (pos' := 10) (st' := [.int (q_bz r2.1)]) (lI' := [(457, r2.2.1), (459, r2.2.2.1), (460, r2.2.2.2.1), (461, r2.2.2.2.2.1), (462, r2.2.2.2.2.2.1), (463, r2.2.2.2.2.2.2.1), (464, r2.2.2.2.2.2.2.2.1), (465, r2.2.2.2.2.2.2.2.2.1), (466, r2.2.2.2.2.2.2.2.2.2.1), (467, r2.2.2.2.2.2.2.2.2.2.2.1), (468, r2.2.2.2.2.2.2.2.2.2.2.2.1), (469, r2.2.2.2.2.2.2.2.2.2.2.2.2.1), (470, r2.2.2.2.2.2.2.2.2.2.2.2.2.2.1), (471, r2.2.2.2.2.2.2.2.2.2.2.2.2.2.2.1), (472, r2.2.2.2.2.2.2.2.2.2.2.2.2.2.2.2.1), (490, r2.2.2.2.2.2.2.2.2.2.2.2.2.2.2.2.2.1), (491, r2.2.2.2.2.2.2.2.2.2.2.2.2.2.2.2.2.2)]) (lE' := []) rfl rfl (q_mgw rfl rfl) rfl ?_
      refine q_blf 0 [] (a := q_kc (t, r, m, 499, 492, ext, rx, L) I E 12 [some (.ref 489), some (.ref 457), some (.int v2), some (.int v3), some (.int v4)] [] [(457, r2.2.1), (459, r2.2.2.1), (460, r2.2.2.2.1), (461, r2.2.2.2.2.1), (462, r2.2.2.2.2.2.1), (463, r2.2.2.2.2.2.2.1), (464, r2.2.2.2.2.2.2.2.1), (465, r2.2.2.2.2.2.2.2.2.1), (466, r2.2.2.2.2.2.2.2.2.2.1), (467, r2.2.2.2.2.2.2.2.2.2.2.1), (468, r2.2.2.2.2.2.2.2.2.2.2.2.1), (469, r2.2.2.2.2.2.2.2.2.2.2.2.2.1), (470, r2.2.2.2.2.2.2.2.2.2.2.2.2.2.1), (471, r2.2.2.2.2.2.2.2.2.2.2.2.2.2.2.1), (472, r2.2.2.2.2.2.2.2.2.2.2.2.2.2.2.2.1), (490, r2.2.2.2.2.2.2.2.2.2.2.2.2.2.2.2.2.1), (491, r2.2.2.2.2.2.2.2.2.2.2.2.2.2.2.2.2.2)] []) (b := q_kc (t, r, m, 499, 492, ext, rx, L) I E 11 [some (.ref 489), some (.ref 457), some (.int v2), some (.int v3), some (.int v4)] [] [(457, r2.2.1), (459, r2.2.2.1), (460, r2.2.2.2.1), (461, r2.2.2.2.2.1), (462, r2.2.2.2.2.2.1), (463, r2.2.2.2.2.2.2.1), (464, r2.2.2.2.2.2.2.2.1), (465, r2.2.2.2.2.2.2.2.2.1), (466, r2.2.2.2.2.2.2.2.2.2.1), (467, r2.2.2.2.2.2.2.2.2.2.2.1), (468, r2.2.2.2.2.2.2.2.2.2.2.2.1), (469, r2.2.2.2.2.2.2.2.2.2.2.2.2.1), (470, r2.2.2.2.2.2.2.2.2.2.2.2.2.2.1), (471, r2.2.2.2.2.2.2.2.2.2.2.2.2.2.2.1), (472, r2.2.2.2.2.2.2.2.2.2.2.2.2.2.2.2.1), (490, r2.2.2.2.2.2.2.2.2.2.2.2.2.2.2.2.2.1), (491, r2.2.2.2.2.2.2.2.2.2.2.2.2.2.2.2.2.2)] []) (P := (q_bz r2.1) = 0) ok_X3_goOn rfl q_cn (fun h3 => ?_) (fun h3 => ?_)
      · have hf := q_ip h3 hf
        refine q_blk 2 [] (c' := q_kc (t, r, m, 499, 492, ext, rx, L) I E 4 [some (.ref 489), some (.ref 457), some (.int v2), some (.int v3), some (.int (v4 + 1))] [] [(457, r2.2.1), (459, r2.2.2.1), (460, r2.2.2.2.1), (461, r2.2.2.2.2.1), (462, r2.2.2.2.2.2.1), (463, r2.2.2.2.2.2.2.1), (464, r2.2.2.2.2.2.2.2.1), (465, r2.2.2.2.2.2.2.2.2.1), (466, r2.2.2.2.2.2.2.2.2.2.1), (467, r2.2.2.2.2.2.2.2.2.2.2.1), (468, r2.2.2.2.2.2.2.2.2.2.2.2.1), (469, r2.2.2.2.2.2.2.2.2.2.2.2.2.1), (470, r2.2.2.2.2.2.2.2.2.2.2.2.2.2.1), (471, r2.2.2.2.2.2.2.2.2.2.2.2.2.2.2.1), (472, r2.2.2.2.2.2.2.2.2.2.2.2.2.2.2.2.1), (490, r2.2.2.2.2.2.2.2.2.2.2.2.2.2.2.2.2.1), (491, r2.2.2.2.2.2.2.2.2.2.2.2.2.2.2.2.2.2)] []) ok_X3_goOn rfl q_cn ?_
        exact ih (I := q_ws I [(457, r2.2.1), (459, r2.2.2.1), (460, r2.2.2.2.1), (461, r2.2.2.2.2.1), (462, r2.2.2.2.2.2.1), (463, r2.2.2.2.2.2.2.1), (464, r2.2.2.2.2.2.2.2.1), (465, r2.2.2.2.2.2.2.2.2.1), (466, r2.2.2.2.2.2.2.2.2.2.1), (467, r2.2.2.2.2.2.2.2.2.2.2.1), (468, r2.2.2.2.2.2.2.2.2.2.2.2.1), (469, r2.2.2.2.2.2.2.2.2.2.2.2.2.1), (470, r2.2.2.2.2.2.2.2.2.2.2.2.2.2.1), (471, r2.2.2.2.2.2.2.2.2.2.2.2.2.2.2.1), (472, r2.2.2.2.2.2.2.2.2.2.2.2.2.2.2.2.1), (490, r2.2.2.2.2.2.2.2.2.2.2.2.2.2.2.2.2.1), (491, r2.2.2.2.2.2.2.2.2.2.2.2.2.2.2.2.2.2)]) (E := q_ws E []) hf (q_tRe rfl hTa) (q_tRe rfl hKa) (q_Jmrg (q_mgw rfl rfl) (q_mgw rfl rfl) hK0)
      · have hf := q_in h3 hf
        refine q_blk 3 [] (c' := q_kc (t, r, m, 499, 492, ext, rx, L) I E 4 [some (.ref 489), some (.ref 457), some (.int v2), some (.int (v3 + 1)), some (.int (v4 + 1))] [] [(457, r2.2.1), (459, r2.2.2.1), (460, r2.2.2.2.1), (461, r2.2.2.2.2.1), (462, r2.2.2.2.2.2.1), (463, r2.2.2.2.2.2.2.1), (464, r2.2.2.2.2.2.2.2.1), (465, r2.2.2.2.2.2.2.2.2.1), (466, r2.2.2.2.2.2.2.2.2.2.1), (467, r2.2.2.2.2.2.2.2.2.2.2.1), (468, r2.2.2.2.2.2.2.2.2.2.2.2.1), (469, r2.2.2.2.2.2.2.2.2.2.2.2.2.1), (470, r2.2.2.2.2.2.2.2.2.2.2.2.2.2.1), (471, r2.2.2.2.2.2.2.2.2.2.2.2.2.2.2.1), (472, r2.2.2.2.2.2.2.2.2.2.2.2.2.2.2.2.1), (490, r2.2.2.2.2.2.2.2.2.2.2.2.2.2.2.2.2.1), (491, r2.2.2.2.2.2.2.2.2.2.2.2.2.2.2.2.2.2)] []) ok_X3_goOn rfl q_cn ?_
        exact ih (I := q_ws I [(457, r2.2.1), (459, r2.2.2.1), (460, r2.2.2.2.1), (461, r2.2.2.2.2.1), (462, r2.2.2.2.2.2.1), (463, r2.2.2.2.2.2.2.1), (464, r2.2.2.2.2.2.2.2.1), (465, r2.2.2.2.2.2.2.2.2.1), (466, r2.2.2.2.2.2.2.2.2.2.1), (467, r2.2.2.2.2.2.2.2.2.2.2.1), (468, r2.2.2.2.2.2.2.2.2.2.2.2.1), (469, r2.2.2.2.2.2.2.2.2.2.2.2.2.1), (470, r2.2.2.2.2.2.2.2.2.2.2.2.2.2.1), (471, r2.2.2.2.2.2.2.2.2.2.2.2.2.2.2.1), (472, r2.2.2.2.2.2.2.2.2.2.2.2.2.2.2.2.1), (490, r2.2.2.2.2.2.2.2.2.2.2.2.2.2.2.2.2.1), (491, r2.2.2.2.2.2.2.2.2.2.2.2.2.2.2.2.2.2)]) (E := q_ws E []) hf (q_tRe rfl hTa) (q_tRe rfl hKa) (q_Jmrg (q_mgw rfl rfl) (q_mgw rfl rfl) hK0)
set_option maxHeartbeats 4000000 in
theorem ct_X3_goOn_489_457 {g : q_G} {t : Nat} {r : Nat} {m : Nat} {ext : Nat → q_Sh} {rx : Nat → Nat → Option Nat} {L : Nat → Nat → Int64} {d : Nat} (hd : 7 ≤ d)  {I : Nat → Nat → Int32} {E : Nat → Nat → Option Nat} {T1 : Nat → Nat → Int32} {K1 : Nat → Nat → Option Nat} {x2 : Int32} {r0 : Int32 × (Nat → Int32) × (Nat → Int32) × (Nat → Int32) × (Nat → Int32) × (Nat → Int32) × (Nat → Int32) × (Nat → Int32) × (Nat → Int32) × (Nat → Int32) × (Nat → Int32) × (Nat → Int32) × (Nat → Int32) × (Nat → Int32) × (Nat → Int32) × (Nat → Int32) × (Nat → Int32) × (Nat → Int32)} (hf : f_X3_goOn (I 402) (I 405) (I 457) (I 459) (I 460) (I 461) (I 462) (I 463) (I 464) (I 465) (I 466) (I 467) (I 468) (I 469) (I 470) (I 471) (I 472) (I 490) (I 491) (E 404) T1 K1 x2 = some r0) (hTa : T1 = q_tR I 406) (hKa : K1 = q_tR E 406) : q_Ct g m_X3_goOn d 0 0 [471, 472] [.ref 489, .ref 457, .int x2] (q_hp (t, r, m, 499, 492, ext, rx, L) I E) (fun o h' => o = .inl (some (.int r0.1)) ∧ h' = q_hp (t, r, m, 499, 492, ext, rx, L) (q_ws I [(457, r0.2.1), (459, r0.2.2.1), (460, r0.2.2.2.1), (461, r0.2.2.2.2.1), (462, r0.2.2.2.2.2.1), (463, r0.2.2.2.2.2.2.1), (464, r0.2.2.2.2.2.2.2.1), (465, r0.2.2.2.2.2.2.2.2.1), (466, r0.2.2.2.2.2.2.2.2.2.1), (467, r0.2.2.2.2.2.2.2.2.2.2.1), (468, r0.2.2.2.2.2.2.2.2.2.2.2.1), (469, r0.2.2.2.2.2.2.2.2.2.2.2.2.1), (470, r0.2.2.2.2.2.2.2.2.2.2.2.2.2.1), (471, r0.2.2.2.2.2.2.2.2.2.2.2.2.2.2.1), (472, r0.2.2.2.2.2.2.2.2.2.2.2.2.2.2.2.1), (490, r0.2.2.2.2.2.2.2.2.2.2.2.2.2.2.2.2.1), (491, r0.2.2.2.2.2.2.2.2.2.2.2.2.2.2.2.2.2)]) (q_ws E [])) := by
  rw [f_X3_goOn] at hf
  refine q_Ct_of ok_X3_goOn (Nat.le_of_ble_eq_true rfl) ?_ _ rfl rfl
  change q_J g m_X3_goOn d 0 0 _ [471, 472] _ 0 0 (q_kc (t, r, m, 499, 492, ext, rx, L) I E 0 [some (.ref 489), some (.ref 457), some (.int x2), none, none] [] [] [])
  refine q_blk 4 [] (c' := q_kc (t, r, m, 499, 492, ext, rx, L) I E 4 [some (.ref 489), some (.ref 457), some (.int x2), some (.int (0 : Int32)), some (.int (0 : Int32))] [] [] []) ok_X3_goOn rfl q_cn ?_
  obtain ⟨r4, hr4, hf⟩ := q_bd hf
  refine lp_X3_goOn_L4_489_457 (I := q_ws I []) (E := q_ws E []) hd (Nat.le_of_ble_eq_true rfl) (Nat.le_of_ble_eq_true rfl) 4096 hr4 (q_tRe rfl hTa) (q_tRe rfl hKa) ?_
  refine q_Jmrg (lI' := [(457, r4.2.1), (459, r4.2.2.1), (460, r4.2.2.2.1), (461, r4.2.2.2.2.1), (462, r4.2.2.2.2.2.1), (463, r4.2.2.2.2.2.2.1), (464, r4.2.2.2.2.2.2.2.1), (465, r4.2.2.2.2.2.2.2.2.1), (466, r4.2.2.2.2.2.2.2.2.2.1), (467, r4.2.2.2.2.2.2.2.2.2.2.1), (468, r4.2.2.2.2.2.2.2.2.2.2.2.1), (469, r4.2.2.2.2.2.2.2.2.2.2.2.2.1), (470, r4.2.2.2.2.2.2.2.2.2.2.2.2.2.1), (471, r4.2.2.2.2.2.2.2.2.2.2.2.2.2.2.1), (472, r4.2.2.2.2.2.2.2.2.2.2.2.2.2.2.2.1), (490, r4.2.2.2.2.2.2.2.2.2.2.2.2.2.2.2.2.1), (491, r4.2.2.2.2.2.2.2.2.2.2.2.2.2.2.2.2.2)]) (lE' := []) (q_mgw rfl rfl) (q_mgw rfl rfl) ?_
  refine q_blk 1 [] (c' := q_kc (t, r, m, 499, 492, ext, rx, L) I E 15 [none, none, none, some (.int r4.1), none] [.int r4.1] [(457, r4.2.1), (459, r4.2.2.1), (460, r4.2.2.2.1), (461, r4.2.2.2.2.1), (462, r4.2.2.2.2.2.1), (463, r4.2.2.2.2.2.2.1), (464, r4.2.2.2.2.2.2.2.1), (465, r4.2.2.2.2.2.2.2.2.1), (466, r4.2.2.2.2.2.2.2.2.2.1), (467, r4.2.2.2.2.2.2.2.2.2.2.1), (468, r4.2.2.2.2.2.2.2.2.2.2.2.1), (469, r4.2.2.2.2.2.2.2.2.2.2.2.2.1), (470, r4.2.2.2.2.2.2.2.2.2.2.2.2.2.1), (471, r4.2.2.2.2.2.2.2.2.2.2.2.2.2.2.1), (472, r4.2.2.2.2.2.2.2.2.2.2.2.2.2.2.2.1), (490, r4.2.2.2.2.2.2.2.2.2.2.2.2.2.2.2.2.1), (491, r4.2.2.2.2.2.2.2.2.2.2.2.2.2.2.2.2.2)] []) ok_X3_goOn rfl q_cn ?_
  cases hf
  exact q_kri ok_X3_goOn rfl rfl rfl (Nat.le_of_ble_eq_true rfl) (Nat.le_of_ble_eq_true rfl) ⟨rfl, q_hpe (q_pdw [457, 459, 460, 461, 462, 463, 464, 465, 466, 467, 468, 469, 470, 471, 472, 490, 491] rfl rfl) (q_pdw [] rfl rfl)⟩
set_option maxHeartbeats 4000000 in
theorem ct_X12_work_400 {g : q_G} {t : Nat} {r : Nat} {m : Nat} {ext : Nat → q_Sh} {rx : Nat → Nat → Option Nat} {L : Nat → Nat → Int64} {d : Nat} (hd : 8 ≤ d)  {I : Nat → Nat → Int32} {E : Nat → Nat → Option Nat} {T1 : Nat → Nat → Int32} {K1 : Nat → Nat → Option Nat} {x1 : Int32} {r0 : (Int32 ⊕ String) × (Nat → Int32) × (Nat → Int32) × (Nat → Int32) × (Nat → Int32) × (Nat → Int32) × (Nat → Int32) × (Nat → Int32) × (Nat → Int32) × (Nat → Int32) × (Nat → Int32) × (Nat → Int32) × (Nat → Int32) × (Nat → Int32) × (Nat → Int32) × (Nat → Int32) × (Nat → Int32) × (Nat → Int32)} (hf : f_X12_work (I 402) (I 405) (I 457) (I 459) (I 460) (I 461) (I 462) (I 463) (I 464) (I 465) (I 466) (I 467) (I 468) (I 469) (I 470) (I 471) (I 472) (I 490) (I 491) (E 404) T1 K1 x1 = some r0) (hTa : T1 = q_tR I 406) (hKa : K1 = q_tR E 406) : q_Ct g m_X12_work d 2 12 [471, 472] [.ref 400, .int x1] (q_hp (t, r, m, 499, 492, ext, rx, L) I E) (fun o h' => o = q_oI r0.1 ∧ h' = q_hp (t, r, m, 499, 492, ext, rx, L) (q_ws I [(457, r0.2.1), (459, r0.2.2.1), (460, r0.2.2.2.1), (461, r0.2.2.2.2.1), (462, r0.2.2.2.2.2.1), (463, r0.2.2.2.2.2.2.1), (464, r0.2.2.2.2.2.2.2.1), (465, r0.2.2.2.2.2.2.2.2.1), (466, r0.2.2.2.2.2.2.2.2.2.1), (467, r0.2.2.2.2.2.2.2.2.2.2.1), (468, r0.2.2.2.2.2.2.2.2.2.2.2.1), (469, r0.2.2.2.2.2.2.2.2.2.2.2.2.1), (470, r0.2.2.2.2.2.2.2.2.2.2.2.2.2.1), (471, r0.2.2.2.2.2.2.2.2.2.2.2.2.2.2.1), (472, r0.2.2.2.2.2.2.2.2.2.2.2.2.2.2.2.1), (490, r0.2.2.2.2.2.2.2.2.2.2.2.2.2.2.2.2.1), (491, r0.2.2.2.2.2.2.2.2.2.2.2.2.2.2.2.2.2)]) (q_ws E [])) := by
  rw [f_X12_work] at hf
  refine q_Ct_of ok_X12_work (Nat.le_of_ble_eq_true rfl) ?_ _ rfl rfl
  change q_J g m_X12_work d 2 12 _ [471, 472] _ 0 0 (q_kc (t, r, m, 499, 492, ext, rx, L) I E 0 [some (.ref 400), some (.int x1)] [] [] [])
  refine q_blk 2 [] (c' := q_kc (t, r, m, 499, 492, ext, rx, L) I E 2 [some (.ref 400), some (.int x1)] [.int x1, .ref 400] [] []) ok_X12_work rfl q_cn ?_
  obtain ⟨r1, hr1, hf⟩ := q_bd hf
  cases hv4 : r1 with
  | inl v2 =>
    have hf := q_sm0 hv4 hf
    refine q_kV (M2 := m_X12_checkWork) (As := [.int x1]) (b := 400) (v2 := none) ok_X12_work ok_X12_checkWork cv_X12_checkWork (ct_X12_checkWork_400 (d := 6) (Nat.le_refl _) hr1) (q_oVl hv4) rfl (Or.inl rfl) rfl rfl rfl rfl (Nat.le_trans (Nat.le_of_ble_eq_true rfl) hd) (Nat.le_of_ble_eq_true rfl) (Nat.le_of_ble_eq_true rfl) (Nat.le_of_ble_eq_true rfl) (fun x hx => absurd hx List.not_mem_nil) (q_nmL0 _) (q_nmS0 _) rfl (pos' := 3) (st' := []) (lI' := []) (lE' := []) rfl rfl rfl rfl ?_
    refine q_blk 5 [] (c' := q_kc (t, r, m, 499, 492, ext, rx, L) I E 8 [some (.ref 400), some (.int x1)] [.int x1, .ref 457, .ref 489] [] []) ok_X12_work rfl q_cn ?_
    refine q_less (ls' := [none, none]) (q_sb1 (q_sb1 q_sb0)) ?_
    obtain ⟨r5, hr5, hf⟩ := q_bd hf
    refine q_kV (M2 := m_X3_goOn) (As := [.ref 457, .int x1]) (b := 489) (v2 := some (.int r5.1)) ok_X12_work ok_X3_goOn cv_X3_goOn (ct_X3_goOn_489_457 (d := 7) (Nat.le_refl _) hr5 (q_tRe rfl hTa) (q_tRe rfl hKa)) rfl rfl (Or.inl rfl) rfl rfl rfl rfl (Nat.le_trans (Nat.le_of_ble_eq_true rfl) hd) (Nat.le_of_ble_eq_true rfl) (Nat.le_of_ble_eq_true rfl) (Nat.le_of_ble_eq_true rfl) (fun x hx => hx) rfl rfl rfl (pos' := 9) (st' := [.int r5.1]) (lI' := [(457, r5.2.1), (459, r5.2.2.1), (460, r5.2.2.2.1), (461, r5.2.2.2.2.1), (462, r5.2.2.2.2.2.1), (463, r5.2.2.2.2.2.2.1), (464, r5.2.2.2.2.2.2.2.1), (465, r5.2.2.2.2.2.2.2.2.1), (466, r5.2.2.2.2.2.2.2.2.2.1), (467, r5.2.2.2.2.2.2.2.2.2.2.1), (468, r5.2.2.2.2.2.2.2.2.2.2.2.1), (469, r5.2.2.2.2.2.2.2.2.2.2.2.2.1), (470, r5.2.2.2.2.2.2.2.2.2.2.2.2.2.1), (471, r5.2.2.2.2.2.2.2.2.2.2.2.2.2.2.1), (472, r5.2.2.2.2.2.2.2.2.2.2.2.2.2.2.2.1), (490, r5.2.2.2.2.2.2.2.2.2.2.2.2.2.2.2.2.1), (491, r5.2.2.2.2.2.2.2.2.2.2.2.2.2.2.2.2.2)]) (lE' := []) rfl rfl (q_mgw rfl rfl) rfl ?_
    cases hf
    exact q_kri ok_X12_work rfl rfl rfl (Nat.le_of_ble_eq_true rfl) (Nat.le_of_ble_eq_true rfl) ⟨rfl, q_hpe (q_pdw [457, 459, 460, 461, 462, 463, 464, 465, 466, 467, 468, 469, 470, 471, 472, 490, 491] rfl rfl) (q_pdw [] rfl rfl)⟩
  | inr e3 =>
    have hf := q_sm1 hv4 hf
    cases hf
    refine q_kVx (M2 := m_X12_checkWork) (As := [.int x1]) (b := 400) ok_X12_work ok_X12_checkWork cv_X12_checkWork (ct_X12_checkWork_400 (d := 6) (Nat.le_refl _) hr1) (q_oVr hv4) rfl (Or.inl rfl) rfl rfl rfl rfl (Nat.le_trans (Nat.le_of_ble_eq_true rfl) hd) (Nat.le_of_ble_eq_true rfl) (Nat.le_of_ble_eq_true rfl) (Nat.le_of_ble_eq_true rfl) (fun x hx => absurd hx List.not_mem_nil) (q_nmL0 _) (q_nmS0 _) rfl (lI' := []) (lE' := []) rfl rfl ⟨rfl, q_hpe (q_pdw [457, 459, 460, 461, 462, 463, 464, 465, 466, 467, 468, 469, 470, 471, 472, 490, 491] rfl rfl) (q_pdw [] rfl rfl)⟩
set_option maxHeartbeats 4000000 in
theorem ct_X1_imitate_474_458 {g : q_G} {t : Nat} {r : Nat} {m : Nat} {z : Nat} {N : Nat} {ext : Nat → q_Sh} {rx : Nat → Nat → Option Nat} {L : Nat → Nat → Int64} {d : Nat} (hd : 2 ≤ d)  {I : Nat → Nat → Int32} {E : Nat → Nat → Option Nat} {r0 : (Nat → Int32) × (Nat → Int32) × (Nat → Int32) × (Nat → Int32) × (Nat → Int32) × (Nat → Int32)} (hf : f_X1_imitate (I 459) (I 460) (I 461) (I 462) (I 463) (I 464) (I 475) (I 476) (I 477) (I 478) (I 479) (I 480) = some r0) : q_Ct g m_X1_imitate d 0 0 [] [.ref 474, .ref 458] (q_hp (t, r, m, z, N, ext, rx, L) I E) (fun o h' => o = .inl none ∧ h' = q_hp (t, r, m, z, N, ext, rx, L) (q_ws I [(475, r0.1), (476, r0.2.1), (477, r0.2.2.1), (478, r0.2.2.2.1), (479, r0.2.2.2.2.1), (480, r0.2.2.2.2.2)]) (q_ws E [])) := by
  rw [f_X1_imitate] at hf
  refine q_Ct_of ok_X1_imitate (Nat.le_of_ble_eq_true rfl) ?_ _ rfl rfl
  change q_J g m_X1_imitate d 0 0 _ [] _ 0 0 (q_kc (t, r, m, z, N, ext, rx, L) I E 0 [some (.ref 474), some (.ref 458)] [] [] [])
  refine q_blk 7 [] (c' := q_kc (t, r, m, z, N, ext, rx, L) I E 7 [some (.ref 474), some (.ref 458)] [.int (128 : Int32), .int (0 : Int32), .ref 475, .int (0 : Int32), .ref 459] [] []) ok_X1_imitate rfl q_cn ?_
  refine q_kcp (c := 128) (pos' := 8) (lI' := [(475, (q_cp (I 459) (I 475) 128))]) ok_X1_imitate rfl rfl (Nat.le_trans (Nat.le_of_ble_eq_true rfl) hd) (Nat.le_of_ble_eq_true rfl) rfl rfl rfl rfl rfl rfl rfl rfl rfl rfl ?_
  refine q_blk 7 [] (c' := q_kc (t, r, m, z, N, ext, rx, L) I E 15 [some (.ref 474), some (.ref 458)] [.int (128 : Int32), .int (0 : Int32), .ref 476, .int (0 : Int32), .ref 460] [(475, (q_cp (I 459) (I 475) 128))] []) ok_X1_imitate rfl q_cn ?_
  refine q_kcp (c := 128) (pos' := 16) (lI' := [(475, (q_cp (I 459) (I 475) 128)), (476, (q_cp (I 460) (I 476) 128))]) ok_X1_imitate rfl rfl (Nat.le_trans (Nat.le_of_ble_eq_true rfl) hd) (Nat.le_of_ble_eq_true rfl) rfl rfl rfl rfl rfl rfl rfl rfl rfl rfl ?_
  refine q_blk 7 [] (c' := q_kc (t, r, m, z, N, ext, rx, L) I E 23 [some (.ref 474), some (.ref 458)] [.int (128 : Int32), .int (0 : Int32), .ref 477, .int (0 : Int32), .ref 461] [(475, (q_cp (I 459) (I 475) 128)), (476, (q_cp (I 460) (I 476) 128))] []) ok_X1_imitate rfl q_cn ?_
  refine q_kcp (c := 128) (pos' := 24) (lI' := [(475, (q_cp (I 459) (I 475) 128)), (476, (q_cp (I 460) (I 476) 128)), (477, (q_cp (I 461) (I 477) 128))]) ok_X1_imitate rfl rfl (Nat.le_trans (Nat.le_of_ble_eq_true rfl) hd) (Nat.le_of_ble_eq_true rfl) rfl rfl rfl rfl rfl rfl rfl rfl rfl rfl ?_
  refine q_blk 7 [] (c' := q_kc (t, r, m, z, N, ext, rx, L) I E 31 [some (.ref 474), some (.ref 458)] [.int (128 : Int32), .int (0 : Int32), .ref 478, .int (0 : Int32), .ref 462] [(475, (q_cp (I 459) (I 475) 128)), (476, (q_cp (I 460) (I 476) 128)), (477, (q_cp (I 461) (I 477) 128))] []) ok_X1_imitate rfl q_cn ?_
  refine q_kcp (c := 128) (pos' := 32) (lI' := [(475, (q_cp (I 459) (I 475) 128)), (476, (q_cp (I 460) (I 476) 128)), (477, (q_cp (I 461) (I 477) 128)), (478, (q_cp (I 462) (I 478) 128))]) ok_X1_imitate rfl rfl (Nat.le_trans (Nat.le_of_ble_eq_true rfl) hd) (Nat.le_of_ble_eq_true rfl) rfl rfl rfl rfl rfl rfl rfl rfl rfl rfl ?_
  refine q_blk 7 [] (c' := q_kc (t, r, m, z, N, ext, rx, L) I E 39 [some (.ref 474), some (.ref 458)] [.int (128 : Int32), .int (0 : Int32), .ref 479, .int (0 : Int32), .ref 463] [(475, (q_cp (I 459) (I 475) 128)), (476, (q_cp (I 460) (I 476) 128)), (477, (q_cp (I 461) (I 477) 128)), (478, (q_cp (I 462) (I 478) 128))] []) ok_X1_imitate rfl q_cn ?_
  refine q_kcp (c := 128) (pos' := 40) (lI' := [(475, (q_cp (I 459) (I 475) 128)), (476, (q_cp (I 460) (I 476) 128)), (477, (q_cp (I 461) (I 477) 128)), (478, (q_cp (I 462) (I 478) 128)), (479, (q_cp (I 463) (I 479) 128))]) ok_X1_imitate rfl rfl (Nat.le_trans (Nat.le_of_ble_eq_true rfl) hd) (Nat.le_of_ble_eq_true rfl) rfl rfl rfl rfl rfl rfl rfl rfl rfl rfl ?_
  refine q_blk 7 [] (c' := q_kc (t, r, m, z, N, ext, rx, L) I E 47 [some (.ref 474), some (.ref 458)] [.int (384 : Int32), .int (0 : Int32), .ref 480, .int (0 : Int32), .ref 464] [(475, (q_cp (I 459) (I 475) 128)), (476, (q_cp (I 460) (I 476) 128)), (477, (q_cp (I 461) (I 477) 128)), (478, (q_cp (I 462) (I 478) 128)), (479, (q_cp (I 463) (I 479) 128))] []) ok_X1_imitate rfl q_cn ?_
  refine q_kcp (c := 384) (pos' := 48) (lI' := [(475, (q_cp (I 459) (I 475) 128)), (476, (q_cp (I 460) (I 476) 128)), (477, (q_cp (I 461) (I 477) 128)), (478, (q_cp (I 462) (I 478) 128)), (479, (q_cp (I 463) (I 479) 128)), (480, (q_cp (I 464) (I 480) 384))]) ok_X1_imitate rfl rfl (Nat.le_trans (Nat.le_of_ble_eq_true rfl) hd) (Nat.le_of_ble_eq_true rfl) rfl rfl rfl rfl rfl rfl rfl rfl rfl rfl ?_
  cases hf
  exact q_krv ok_X1_imitate rfl rfl (Nat.le_of_ble_eq_true rfl) (Nat.le_of_ble_eq_true rfl) ⟨rfl, q_hpe (q_pdw [475, 476, 477, 478, 479, 480] rfl rfl) (q_pdw [] rfl rfl)⟩
set_option maxHeartbeats 4000000 in
theorem ct_X5_imitate_481_465 {g : q_G} {t : Nat} {r : Nat} {m : Nat} {z : Nat} {N : Nat} {ext : Nat → q_Sh} {rx : Nat → Nat → Option Nat} {L : Nat → Nat → Int64} {d : Nat} (hd : 2 ≤ d)  {I : Nat → Nat → Int32} {E : Nat → Nat → Option Nat} {r0 : (Nat → Int32) × (Nat → Int32)} (hf : f_X5_imitate (I 465) (I 466) (I 481) (I 482) = some r0) : q_Ct g m_X5_imitate d 0 0 [] [.ref 481, .ref 465] (q_hp (t, r, m, z, N, ext, rx, L) I E) (fun o h' => o = .inl none ∧ h' = q_hp (t, r, m, z, N, ext, rx, L) (q_ws I [(481, r0.1), (482, r0.2)]) (q_ws E [])) := by
  rw [f_X5_imitate] at hf
  refine q_Ct_of ok_X5_imitate (Nat.le_of_ble_eq_true rfl) ?_ _ rfl rfl
  change q_J g m_X5_imitate d 0 0 _ [] _ 0 0 (q_kc (t, r, m, z, N, ext, rx, L) I E 0 [some (.ref 481), some (.ref 465)] [] [] [])
  refine q_blk 7 [] (c' := q_kc (t, r, m, z, N, ext, rx, L) I E 7 [some (.ref 481), some (.ref 465)] [.int (64 : Int32), .int (0 : Int32), .ref 482, .int (0 : Int32), .ref 466] [] []) ok_X5_imitate rfl q_cn ?_
  refine q_kcp (c := 64) (pos' := 8) (lI' := [(482, (q_cp (I 466) (I 482) 64))]) ok_X5_imitate rfl rfl (Nat.le_trans (Nat.le_of_ble_eq_true rfl) hd) (Nat.le_of_ble_eq_true rfl) rfl rfl rfl rfl rfl rfl rfl rfl rfl rfl ?_
  refine q_blk 8 [] (c' := q_kc (t, r, m, z, N, ext, rx, L) I E 16 [some (.ref 481), some (.ref 465)] [] [(481, (q_up (q_up (I 481) 1 ((I 465) 1)) 2 ((I 465) 2))), (482, (q_cp (I 466) (I 482) 64))] []) ok_X5_imitate rfl q_cn ?_
  cases hf
  exact q_krv ok_X5_imitate rfl rfl (Nat.le_of_ble_eq_true rfl) (Nat.le_of_ble_eq_true rfl) ⟨rfl, q_hpe (q_pdw [481, 482] rfl rfl) (q_pdw [] rfl rfl)⟩
set_option maxHeartbeats 4000000 in
theorem ct_X2_imitate_473_457 {g : q_G} {r : Nat} {m : Nat} {z : Nat} {N : Nat} {ext : Nat → q_Sh} {rx : Nat → Nat → Option Nat} {L : Nat → Nat → Int64} {d : Nat} (hd : 3 ≤ d)  {I : Nat → Nat → Int32} {E : Nat → Nat → Option Nat} {r0 : (Nat → Int32) × (Nat → Int32) × (Nat → Int32) × (Nat → Int32) × (Nat → Int32) × (Nat → Int32) × (Nat → Int32) × (Nat → Int32) × (Nat → Int32) × (Nat → Int32) × (Nat → Int32)} (hf : f_X2_imitate (I 457) (I 459) (I 460) (I 461) (I 462) (I 463) (I 464) (I 465) (I 466) (I 470) (I 471) (I 473) (I 475) (I 476) (I 477) (I 478) (I 479) (I 480) (I 481) (I 482) (I 486) (I 487) = some r0) : q_Ct g m_X2_imitate d 0 0 [] [.ref 473, .ref 457] (q_hp (1, r, m, z, N, ext, rx, L) I E) (fun o h' => o = .inl none ∧ h' = q_hp (0, r, m, z, N, ext, rx, L) (q_ws I [(473, r0.1), (475, r0.2.1), (476, r0.2.2.1), (477, r0.2.2.2.1), (478, r0.2.2.2.2.1), (479, r0.2.2.2.2.2.1), (480, r0.2.2.2.2.2.2.1), (481, r0.2.2.2.2.2.2.2.1), (482, r0.2.2.2.2.2.2.2.2.1), (486, r0.2.2.2.2.2.2.2.2.2.1), (487, r0.2.2.2.2.2.2.2.2.2.2)]) (q_ws E [])) := by
  rw [f_X2_imitate] at hf
  refine q_Ct_of ok_X2_imitate (Nat.le_of_ble_eq_true rfl) ?_ _ rfl rfl
  change q_J g m_X2_imitate d 0 0 _ [] _ 0 0 (q_kc (1, r, m, z, N, ext, rx, L) I E 0 [some (.ref 473), some (.ref 457)] [] [] [])
  refine q_blk 3 [] (c' := q_kc (1, r, m, z, N, ext, rx, L) I E 3 [some (.ref 473), some (.ref 457)] [.ref 402, .ref 473] [] []) ok_X2_imitate rfl q_cn ?_
  refine q_kp9 (pos' := 4) (X2 := (0, r, m, z, N, ext, rx, L)) ok_X2_imitate rfl rfl rfl rfl (q_oth_of (ci := 1) (v := 1) (k := 6) (by decide +kernel)) (q_shX_t _ _ _ _) (q_u2_id rfl) rfl rfl rfl ?_
  refine q_blk 4 [] (c' := q_kc (0, r, m, z, N, ext, rx, L) I E 8 [some (.ref 473), some (.ref 457)] [.ref 458, .ref 474] [] []) ok_X2_imitate rfl q_cn ?_
  obtain ⟨r1, hr1, hf⟩ := q_bd hf
  refine q_kV (M2 := m_X1_imitate) (As := [.ref 458]) (b := 474) (v2 := none) ok_X2_imitate ok_X1_imitate cv_X1_imitate (ct_X1_imitate_474_458 (d := 2) (Nat.le_refl _) hr1) rfl rfl (Or.inl rfl) rfl rfl rfl rfl (Nat.le_trans (Nat.le_of_ble_eq_true rfl) hd) (Nat.le_of_ble_eq_true rfl) (Nat.le_of_ble_eq_true rfl) (Nat.le_of_ble_eq_true rfl) (fun x hx => absurd hx List.not_mem_nil) (q_nmL0 _) (q_nmS0 _) rfl (pos' := 9) (st' := []) (lI' := [(475, r1.1), (476, r1.2.1), (477, r1.2.2.1), (478, r1.2.2.2.1), (479, r1.2.2.2.2.1), (480, r1.2.2.2.2.2)]) (lE' := []) rfl rfl (q_mgw rfl rfl) rfl ?_
  refine q_blk 4 [] (c' := q_kc (0, r, m, z, N, ext, rx, L) I E 13 [some (.ref 473), some (.ref 457)] [.ref 465, .ref 481] [(475, r1.1), (476, r1.2.1), (477, r1.2.2.1), (478, r1.2.2.2.1), (479, r1.2.2.2.2.1), (480, r1.2.2.2.2.2)] []) ok_X2_imitate rfl q_cn ?_
  obtain ⟨r2, hr2, hf⟩ := q_bd hf
  refine q_kV (M2 := m_X5_imitate) (As := [.ref 465]) (b := 481) (v2 := none) ok_X2_imitate ok_X5_imitate cv_X5_imitate (ct_X5_imitate_481_465 (d := 2) (Nat.le_refl _) hr2) rfl rfl (Or.inl rfl) rfl rfl rfl rfl (Nat.le_trans (Nat.le_of_ble_eq_true rfl) hd) (Nat.le_of_ble_eq_true rfl) (Nat.le_of_ble_eq_true rfl) (Nat.le_of_ble_eq_true rfl) (fun x hx => absurd hx List.not_mem_nil) (q_nmL0 _) (q_nmS0 _) rfl (pos' := 14) (st' := []) (lI' := [(475, r1.1), (476, r1.2.1), (477, r1.2.2.1), (478, r1.2.2.2.1), (479, r1.2.2.2.2.1), (480, r1.2.2.2.2.2), (481, r2.1), (482, r2.2)]) (lE' := []) rfl rfl (q_mgw rfl rfl) rfl ?_
  refine q_blk 7 [] (c' := q_kc (0, r, m, z, N, ext, rx, L) I E 21 [some (.ref 473), some (.ref 457)] [.int (6 : Int32), .int (0 : Int32), .ref 486, .int (0 : Int32), .ref 470] [(475, r1.1), (476, r1.2.1), (477, r1.2.2.1), (478, r1.2.2.2.1), (479, r1.2.2.2.2.1), (480, r1.2.2.2.2.2), (481, r2.1), (482, r2.2)] []) ok_X2_imitate rfl q_cn ?_
  refine q_kcp (c := 6) (pos' := 22) (lI' := [(475, r1.1), (476, r1.2.1), (477, r1.2.2.1), (478, r1.2.2.2.1), (479, r1.2.2.2.2.1), (480, r1.2.2.2.2.2), (481, r2.1), (482, r2.2), (486, (q_cp (I 470) (I 486) 6))]) ok_X2_imitate rfl rfl (Nat.le_trans (Nat.le_of_ble_eq_true rfl) hd) (Nat.le_of_ble_eq_true rfl) rfl rfl rfl rfl rfl rfl rfl rfl rfl rfl ?_
  refine q_blk 7 [] (c' := q_kc (0, r, m, z, N, ext, rx, L) I E 29 [some (.ref 473), some (.ref 457)] [.int (64 : Int32), .int (0 : Int32), .ref 487, .int (0 : Int32), .ref 471] [(475, r1.1), (476, r1.2.1), (477, r1.2.2.1), (478, r1.2.2.2.1), (479, r1.2.2.2.2.1), (480, r1.2.2.2.2.2), (481, r2.1), (482, r2.2), (486, (q_cp (I 470) (I 486) 6))] []) ok_X2_imitate rfl q_cn ?_
  refine q_kcp (c := 64) (pos' := 30) (lI' := [(475, r1.1), (476, r1.2.1), (477, r1.2.2.1), (478, r1.2.2.2.1), (479, r1.2.2.2.2.1), (480, r1.2.2.2.2.2), (481, r2.1), (482, r2.2), (486, (q_cp (I 470) (I 486) 6)), (487, (q_cp (I 471) (I 487) 64))]) ok_X2_imitate rfl rfl (Nat.le_trans (Nat.le_of_ble_eq_true rfl) hd) (Nat.le_of_ble_eq_true rfl) rfl rfl rfl rfl rfl rfl rfl rfl rfl rfl ?_
  refine q_blk 32 [] (c' := q_kc (0, r, m, z, N, ext, rx, L) I E 62 [some (.ref 473), some (.ref 457)] [] [(473, (q_up (q_up (q_up (q_up (q_up (q_up (q_up (q_up (I 473) 7 ((I 457) 7)) 8 ((I 457) 8)) 9 ((I 457) 9)) 10 ((I 457) 10)) 11 ((I 457) 11)) 12 ((I 457) 12)) 13 ((I 457) 13)) 14 ((I 457) 14))), (475, r1.1), (476, r1.2.1), (477, r1.2.2.1), (478, r1.2.2.2.1), (479, r1.2.2.2.2.1), (480, r1.2.2.2.2.2), (481, r2.1), (482, r2.2), (486, (q_cp (I 470) (I 486) 6)), (487, (q_cp (I 471) (I 487) 64))] []) ok_X2_imitate rfl q_cn ?_
  cases hf
  exact q_krv ok_X2_imitate rfl rfl (Nat.le_of_ble_eq_true rfl) (Nat.le_of_ble_eq_true rfl) ⟨rfl, q_hpe (q_pdw [473, 475, 476, 477, 478, 479, 480, 481, 482, 486, 487] rfl rfl) (q_pdw [] rfl rfl)⟩
set_option maxHeartbeats 4000000 in
theorem ct_X2_freePlaces_473 {g : q_G} {r : Nat} {m : Nat} {z : Nat} {N : Nat} {ext : Nat → q_Sh} {rx : Nat → Nat → Option Nat} {L : Nat → Nat → Int64} {d : Nat} (hd : 1 ≤ d)  {I : Nat → Nat → Int32} {E : Nat → Nat → Option Nat} {r0 : Int32} (hf : f_X2_freePlaces (I 402) (I 473) = some r0) : q_Ct g m_X2_freePlaces d 0 0 [] [.ref 473] (q_hp (0, r, m, z, N, ext, rx, L) I E) (fun o h' => o = .inl (some (.int r0)) ∧ h' = q_hp (0, r, m, z, N, ext, rx, L) (q_ws I []) (q_ws E [])) := by
  rw [f_X2_freePlaces] at hf
  refine q_Ct_of ok_X2_freePlaces (Nat.le_of_ble_eq_true rfl) ?_ _ rfl rfl
  change q_J g m_X2_freePlaces d 0 0 _ [] _ 0 0 (q_kc (0, r, m, z, N, ext, rx, L) I E 0 [some (.ref 473)] [] [] [])
  refine q_blk 6 [] (c' := q_kc (0, r, m, z, N, ext, rx, L) I E 6 [some (.ref 473)] [.int (((I 402) 0) - ((I 473) 8))] [] []) ok_X2_freePlaces rfl q_cn ?_
  cases hf
  exact q_kri ok_X2_freePlaces rfl rfl rfl (Nat.le_of_ble_eq_true rfl) (Nat.le_of_ble_eq_true rfl) ⟨rfl, q_hpe (q_pdw [] rfl rfl) (q_pdw [] rfl rfl)⟩
set_option maxHeartbeats 4000000 in
theorem ct_X2_baleCount_473 {g : q_G} {r : Nat} {m : Nat} {z : Nat} {N : Nat} {ext : Nat → q_Sh} {rx : Nat → Nat → Option Nat} {L : Nat → Nat → Int64} {d : Nat} (hd : 1 ≤ d)  {I : Nat → Nat → Int32} {E : Nat → Nat → Option Nat} {r0 : Int32} (hf : f_X2_baleCount (I 473) (I 481) = some r0) : q_Ct g m_X2_baleCount d 0 0 [] [.ref 473] (q_hp (0, r, m, z, N, ext, rx, L) I E) (fun o h' => o = .inl (some (.int r0)) ∧ h' = q_hp (0, r, m, z, N, ext, rx, L) (q_ws I []) (q_ws E [])) := by
  rw [f_X2_baleCount] at hf
  refine q_Ct_of ok_X2_baleCount (Nat.le_of_ble_eq_true rfl) ?_ _ rfl rfl
  change q_J g m_X2_baleCount d 0 0 _ [] _ 0 0 (q_kc (0, r, m, z, N, ext, rx, L) I E 0 [some (.ref 473)] [] [] [])
  refine q_blk 6 [] (c' := q_kc (0, r, m, z, N, ext, rx, L) I E 6 [some (.ref 473)] [.int (((I 473) 7) + ((I 481) 2))] [] []) ok_X2_baleCount rfl q_cn ?_
  cases hf
  exact q_kri ok_X2_baleCount rfl rfl rfl (Nat.le_of_ble_eq_true rfl) (Nat.le_of_ble_eq_true rfl) ⟨rfl, q_hpe (q_pdw [] rfl rfl) (q_pdw [] rfl rfl)⟩
set_option maxHeartbeats 4000000 in
theorem ct_X2_held_473 {g : q_G} {r : Nat} {m : Nat} {z : Nat} {N : Nat} {ext : Nat → q_Sh} {rx : Nat → Nat → Option Nat} {L : Nat → Nat → Int64} {d : Nat} (hd : 1 ≤ d)  {I : Nat → Nat → Int32} {E : Nat → Nat → Option Nat} {x1 : Int32} {r0 : Int32} (hf : f_X2_held (I 486) x1 = some r0) : q_Ct g m_X2_held d 0 0 [] [.ref 473, .int x1] (q_hp (0, r, m, z, N, ext, rx, L) I E) (fun o h' => o = .inl (some (.int r0)) ∧ h' = q_hp (0, r, m, z, N, ext, rx, L) (q_ws I []) (q_ws E [])) := by
  rw [f_X2_held] at hf
  refine q_Ct_of ok_X2_held (Nat.le_of_ble_eq_true rfl) ?_ _ rfl rfl
  change q_J g m_X2_held d 0 0 _ [] _ 0 0 (q_kc (0, r, m, z, N, ext, rx, L) I E 0 [some (.ref 473), some (.int x1)] [] [] [])
  refine q_blf 1 [] (a := q_kc (0, r, m, z, N, ext, rx, L) I E 10 [some (.ref 473), some (.int x1)] [] [] []) (b := q_kc (0, r, m, z, N, ext, rx, L) I E 2 [some (.ref 473), some (.int x1)] [] [] []) (P := x1 < 0) ok_X2_held rfl q_cn (fun h1 => ?_) (fun h1 => ?_)
  · have hf := q_ip h1 hf
    refine q_blk 1 [] (c' := q_kc (0, r, m, z, N, ext, rx, L) I E 11 [some (.ref 473), some (.int x1)] [.int (-1 : Int32)] [] []) ok_X2_held rfl q_cn ?_
    cases hf
    exact q_kri ok_X2_held rfl rfl rfl (Nat.le_of_ble_eq_true rfl) (Nat.le_of_ble_eq_true rfl) ⟨rfl, q_hpe (q_pdw [] rfl rfl) (q_pdw [] rfl rfl)⟩
  · have hf := q_in h1 hf
    refine q_blf 2 [] (a := q_kc (0, r, m, z, N, ext, rx, L) I E 10 [some (.ref 473), some (.int x1)] [] [] []) (b := q_kc (0, r, m, z, N, ext, rx, L) I E 5 [some (.ref 473), some (.int x1)] [] [] []) (P := (6 : Int32) ≤ x1) ok_X2_held rfl q_cn (fun h2 => ?_) (fun h2 => ?_)
    · have hf := q_ip h2 hf
      refine q_blk 1 [] (c' := q_kc (0, r, m, z, N, ext, rx, L) I E 11 [some (.ref 473), some (.int x1)] [.int (-1 : Int32)] [] []) ok_X2_held rfl q_cn ?_
      cases hf
      exact q_kri ok_X2_held rfl rfl rfl (Nat.le_of_ble_eq_true rfl) (Nat.le_of_ble_eq_true rfl) ⟨rfl, q_hpe (q_pdw [] rfl rfl) (q_pdw [] rfl rfl)⟩
    · have hf := q_in h2 hf
      obtain ⟨j3, hj3, hf⟩ := q_bd hf
      refine q_blk 5 [j3] (c' := q_kc (0, r, m, z, N, ext, rx, L) I E 11 [some (.ref 473), some (.int x1)] [.int ((I 486) j3)] [] []) ok_X2_held rfl (q_cc hj3 q_cn) ?_
      cases hf
      exact q_kri ok_X2_held rfl rfl rfl (Nat.le_of_ble_eq_true rfl) (Nat.le_of_ble_eq_true rfl) ⟨rfl, q_hpe (q_pdw [] rfl rfl) (q_pdw [] rfl rfl)⟩
set_option maxHeartbeats 4000000 in
theorem ct_X1_size_474 {g : q_G} {t : Nat} {r : Nat} {m : Nat} {z : Nat} {N : Nat} {ext : Nat → q_Sh} {rx : Nat → Nat → Option Nat} {L : Nat → Nat → Int64} {d : Nat} (hd : 1 ≤ d)  {I : Nat → Nat → Int32} {E : Nat → Nat → Option Nat} {x1 : Int32} {r0 : Int32} (hf : f_X1_size (I 477) x1 = some r0) : q_Ct g m_X1_size d 0 0 [] [.ref 474, .int x1] (q_hp (t, r, m, z, N, ext, rx, L) I E) (fun o h' => o = .inl (some (.int r0)) ∧ h' = q_hp (t, r, m, z, N, ext, rx, L) (q_ws I []) (q_ws E [])) := by
  rw [f_X1_size] at hf
  refine q_Ct_of ok_X1_size (Nat.le_of_ble_eq_true rfl) ?_ _ rfl rfl
  change q_J g m_X1_size d 0 0 _ [] _ 0 0 (q_kc (t, r, m, z, N, ext, rx, L) I E 0 [some (.ref 474), some (.int x1)] [] [] [])
  refine q_blf 1 [] (a := q_kc (t, r, m, z, N, ext, rx, L) I E 10 [some (.ref 474), some (.int x1)] [] [] []) (b := q_kc (t, r, m, z, N, ext, rx, L) I E 2 [some (.ref 474), some (.int x1)] [] [] []) (P := x1 < 0) ok_X1_size rfl q_cn (fun h1 => ?_) (fun h1 => ?_)
  · have hf := q_ip h1 hf
    refine q_blk 1 [] (c' := q_kc (t, r, m, z, N, ext, rx, L) I E 11 [some (.ref 474), some (.int x1)] [.int (0 : Int32)] [] []) ok_X1_size rfl q_cn ?_
    cases hf
    exact q_kri ok_X1_size rfl rfl rfl (Nat.le_of_ble_eq_true rfl) (Nat.le_of_ble_eq_true rfl) ⟨rfl, q_hpe (q_pdw [] rfl rfl) (q_pdw [] rfl rfl)⟩
  · have hf := q_in h1 hf
    refine q_blf 2 [] (a := q_kc (t, r, m, z, N, ext, rx, L) I E 10 [some (.ref 474), some (.int x1)] [] [] []) (b := q_kc (t, r, m, z, N, ext, rx, L) I E 5 [some (.ref 474), some (.int x1)] [] [] []) (P := (128 : Int32) ≤ x1) ok_X1_size rfl q_cn (fun h2 => ?_) (fun h2 => ?_)
    · have hf := q_ip h2 hf
      refine q_blk 1 [] (c' := q_kc (t, r, m, z, N, ext, rx, L) I E 11 [some (.ref 474), some (.int x1)] [.int (0 : Int32)] [] []) ok_X1_size rfl q_cn ?_
      cases hf
      exact q_kri ok_X1_size rfl rfl rfl (Nat.le_of_ble_eq_true rfl) (Nat.le_of_ble_eq_true rfl) ⟨rfl, q_hpe (q_pdw [] rfl rfl) (q_pdw [] rfl rfl)⟩
    · have hf := q_in h2 hf
      obtain ⟨j3, hj3, hf⟩ := q_bd hf
      refine q_blk 5 [j3] (c' := q_kc (t, r, m, z, N, ext, rx, L) I E 11 [some (.ref 474), some (.int x1)] [.int ((I 477) j3)] [] []) ok_X1_size rfl (q_cc hj3 q_cn) ?_
      cases hf
      exact q_kri ok_X1_size rfl rfl rfl (Nat.le_of_ble_eq_true rfl) (Nat.le_of_ble_eq_true rfl) ⟨rfl, q_hpe (q_pdw [] rfl rfl) (q_pdw [] rfl rfl)⟩
set_option maxHeartbeats 4000000 in
theorem ct_X1_age_474 {g : q_G} {t : Nat} {r : Nat} {m : Nat} {z : Nat} {N : Nat} {ext : Nat → q_Sh} {rx : Nat → Nat → Option Nat} {L : Nat → Nat → Int64} {d : Nat} (hd : 1 ≤ d)  {I : Nat → Nat → Int32} {E : Nat → Nat → Option Nat} {x1 : Int32} {r0 : Int32} (hf : f_X1_age (I 478) x1 = some r0) : q_Ct g m_X1_age d 0 0 [] [.ref 474, .int x1] (q_hp (t, r, m, z, N, ext, rx, L) I E) (fun o h' => o = .inl (some (.int r0)) ∧ h' = q_hp (t, r, m, z, N, ext, rx, L) (q_ws I []) (q_ws E [])) := by
  rw [f_X1_age] at hf
  refine q_Ct_of ok_X1_age (Nat.le_of_ble_eq_true rfl) ?_ _ rfl rfl
  change q_J g m_X1_age d 0 0 _ [] _ 0 0 (q_kc (t, r, m, z, N, ext, rx, L) I E 0 [some (.ref 474), some (.int x1)] [] [] [])
  refine q_blf 1 [] (a := q_kc (t, r, m, z, N, ext, rx, L) I E 10 [some (.ref 474), some (.int x1)] [] [] []) (b := q_kc (t, r, m, z, N, ext, rx, L) I E 2 [some (.ref 474), some (.int x1)] [] [] []) (P := x1 < 0) ok_X1_age rfl q_cn (fun h1 => ?_) (fun h1 => ?_)
  · have hf := q_ip h1 hf
    refine q_blk 1 [] (c' := q_kc (t, r, m, z, N, ext, rx, L) I E 11 [some (.ref 474), some (.int x1)] [.int (0 : Int32)] [] []) ok_X1_age rfl q_cn ?_
    cases hf
    exact q_kri ok_X1_age rfl rfl rfl (Nat.le_of_ble_eq_true rfl) (Nat.le_of_ble_eq_true rfl) ⟨rfl, q_hpe (q_pdw [] rfl rfl) (q_pdw [] rfl rfl)⟩
  · have hf := q_in h1 hf
    refine q_blf 2 [] (a := q_kc (t, r, m, z, N, ext, rx, L) I E 10 [some (.ref 474), some (.int x1)] [] [] []) (b := q_kc (t, r, m, z, N, ext, rx, L) I E 5 [some (.ref 474), some (.int x1)] [] [] []) (P := (128 : Int32) ≤ x1) ok_X1_age rfl q_cn (fun h2 => ?_) (fun h2 => ?_)
    · have hf := q_ip h2 hf
      refine q_blk 1 [] (c' := q_kc (t, r, m, z, N, ext, rx, L) I E 11 [some (.ref 474), some (.int x1)] [.int (0 : Int32)] [] []) ok_X1_age rfl q_cn ?_
      cases hf
      exact q_kri ok_X1_age rfl rfl rfl (Nat.le_of_ble_eq_true rfl) (Nat.le_of_ble_eq_true rfl) ⟨rfl, q_hpe (q_pdw [] rfl rfl) (q_pdw [] rfl rfl)⟩
    · have hf := q_in h2 hf
      obtain ⟨j3, hj3, hf⟩ := q_bd hf
      refine q_blk 5 [j3] (c' := q_kc (t, r, m, z, N, ext, rx, L) I E 11 [some (.ref 474), some (.int x1)] [.int ((I 478) j3)] [] []) ok_X1_age rfl (q_cc hj3 q_cn) ?_
      cases hf
      exact q_kri ok_X1_age rfl rfl rfl (Nat.le_of_ble_eq_true rfl) (Nat.le_of_ble_eq_true rfl) ⟨rfl, q_hpe (q_pdw [] rfl rfl) (q_pdw [] rfl rfl)⟩
set_option maxHeartbeats 4000000 in
theorem ct_X2_sameHeld_473 {g : q_G} {r : Nat} {m : Nat} {z : Nat} {N : Nat} {ext : Nat → q_Sh} {rx : Nat → Nat → Option Nat} {L : Nat → Nat → Int64} {d : Nat} (hd : 1 ≤ d)  {I : Nat → Nat → Int32} {E : Nat → Nat → Option Nat} {x1 : Int32} {x2 : Int32} {r0 : Bool} (hf : f_X2_sameHeld (I 486) x1 x2 = some r0) : q_Ct g m_X2_sameHeld d 0 0 [] [.ref 473, .int x1, .int x2] (q_hp (0, r, m, z, N, ext, rx, L) I E) (fun o h' => o = .inl (some (.int (q_bz r0))) ∧ h' = q_hp (0, r, m, z, N, ext, rx, L) (q_ws I []) (q_ws E [])) := by
  rw [f_X2_sameHeld] at hf
  refine q_Ct_of ok_X2_sameHeld (Nat.le_of_ble_eq_true rfl) ?_ _ rfl rfl
  change q_J g m_X2_sameHeld d 0 0 _ [] _ 0 0 (q_kc (0, r, m, z, N, ext, rx, L) I E 0 [some (.ref 473), some (.int x1), some (.int x2)] [] [] [])
  refine q_blf 1 [] (a := q_kc (0, r, m, z, N, ext, rx, L) I E 27 [some (.ref 473), some (.int x1), some (.int x2)] [] [] []) (b := q_kc (0, r, m, z, N, ext, rx, L) I E 2 [some (.ref 473), some (.int x1), some (.int x2)] [] [] []) (P := x1 < 0) ok_X2_sameHeld rfl q_cn (fun h1 => ?_) (fun h1 => ?_)
  · have hf := q_ip h1 hf
    refine q_blk 1 [] (c' := q_kc (0, r, m, z, N, ext, rx, L) I E 28 [some (.ref 473), some (.int x1), some (.int x2)] [.int (0 : Int32)] [] []) ok_X2_sameHeld rfl q_cn ?_
    cases hf
    exact q_kri ok_X2_sameHeld rfl rfl rfl (Nat.le_of_ble_eq_true rfl) (Nat.le_of_ble_eq_true rfl) ⟨rfl, q_hpe (q_pdw [] rfl rfl) (q_pdw [] rfl rfl)⟩
  · have hf := q_in h1 hf
    refine q_blf 2 [] (a := q_kc (0, r, m, z, N, ext, rx, L) I E 27 [some (.ref 473), some (.int x1), some (.int x2)] [] [] []) (b := q_kc (0, r, m, z, N, ext, rx, L) I E 5 [some (.ref 473), some (.int x1), some (.int x2)] [] [] []) (P := (6 : Int32) ≤ x1) ok_X2_sameHeld rfl q_cn (fun h2 => ?_) (fun h2 => ?_)
    · have hf := q_ip h2 hf
      refine q_blk 1 [] (c' := q_kc (0, r, m, z, N, ext, rx, L) I E 28 [some (.ref 473), some (.int x1), some (.int x2)] [.int (0 : Int32)] [] []) ok_X2_sameHeld rfl q_cn ?_
      cases hf
      exact q_kri ok_X2_sameHeld rfl rfl rfl (Nat.le_of_ble_eq_true rfl) (Nat.le_of_ble_eq_true rfl) ⟨rfl, q_hpe (q_pdw [] rfl rfl) (q_pdw [] rfl rfl)⟩
    · have hf := q_in h2 hf
      refine q_blf 1 [] (a := q_kc (0, r, m, z, N, ext, rx, L) I E 27 [some (.ref 473), some (.int x1), some (.int x2)] [] [] []) (b := q_kc (0, r, m, z, N, ext, rx, L) I E 7 [some (.ref 473), some (.int x1), some (.int x2)] [] [] []) (P := x2 < 0) ok_X2_sameHeld rfl q_cn (fun h3 => ?_) (fun h3 => ?_)
      · have hf := q_ip h3 hf
        refine q_blk 1 [] (c' := q_kc (0, r, m, z, N, ext, rx, L) I E 28 [some (.ref 473), some (.int x1), some (.int x2)] [.int (0 : Int32)] [] []) ok_X2_sameHeld rfl q_cn ?_
        cases hf
        exact q_kri ok_X2_sameHeld rfl rfl rfl (Nat.le_of_ble_eq_true rfl) (Nat.le_of_ble_eq_true rfl) ⟨rfl, q_hpe (q_pdw [] rfl rfl) (q_pdw [] rfl rfl)⟩
      · have hf := q_in h3 hf
        refine q_blf 2 [] (a := q_kc (0, r, m, z, N, ext, rx, L) I E 27 [some (.ref 473), some (.int x1), some (.int x2)] [] [] []) (b := q_kc (0, r, m, z, N, ext, rx, L) I E 10 [some (.ref 473), some (.int x1), some (.int x2)] [] [] []) (P := (6 : Int32) ≤ x2) ok_X2_sameHeld rfl q_cn (fun h4 => ?_) (fun h4 => ?_)
        · have hf := q_ip h4 hf
          refine q_blk 1 [] (c' := q_kc (0, r, m, z, N, ext, rx, L) I E 28 [some (.ref 473), some (.int x1), some (.int x2)] [.int (0 : Int32)] [] []) ok_X2_sameHeld rfl q_cn ?_
          cases hf
          exact q_kri ok_X2_sameHeld rfl rfl rfl (Nat.le_of_ble_eq_true rfl) (Nat.le_of_ble_eq_true rfl) ⟨rfl, q_hpe (q_pdw [] rfl rfl) (q_pdw [] rfl rfl)⟩
        · have hf := q_in h4 hf
          obtain ⟨j5, hj5, hf⟩ := q_bd hf
          refine q_blf 5 [j5] (a := q_kc (0, r, m, z, N, ext, rx, L) I E 27 [some (.ref 473), some (.int x1), some (.int x2)] [] [] []) (b := q_kc (0, r, m, z, N, ext, rx, L) I E 16 [some (.ref 473), some (.int x1), some (.int x2)] [] [] []) (P := ((I 486) j5) = (-1 : Int32)) ok_X2_sameHeld rfl (q_cc hj5 q_cn) (fun h6 => ?_) (fun h6 => ?_)
          · have hf := q_ip h6 hf
            refine q_blk 1 [] (c' := q_kc (0, r, m, z, N, ext, rx, L) I E 28 [some (.ref 473), some (.int x1), some (.int x2)] [.int (0 : Int32)] [] []) ok_X2_sameHeld rfl q_cn ?_
            cases hf
            exact q_kri ok_X2_sameHeld rfl rfl rfl (Nat.le_of_ble_eq_true rfl) (Nat.le_of_ble_eq_true rfl) ⟨rfl, q_hpe (q_pdw [] rfl rfl) (q_pdw [] rfl rfl)⟩
          · have hf := q_in h6 hf
            obtain ⟨j7, hj7, hf⟩ := q_bd hf
            obtain ⟨j8, hj8, hf⟩ := q_bd hf
            refine q_blf 8 [j7, j8] (a := q_kc (0, r, m, z, N, ext, rx, L) I E 27 [some (.ref 473), some (.int x1), some (.int x2)] [] [] []) (b := q_kc (0, r, m, z, N, ext, rx, L) I E 25 [some (.ref 473), some (.int x1), some (.int x2)] [] [] []) (P := ¬ ((I 486) j7) = ((I 486) j8)) ok_X2_sameHeld rfl (q_cc hj8 (q_cc hj7 q_cn)) (fun h9 => ?_) (fun h9 => ?_)
            · have hf := q_ip h9 hf
              refine q_blk 1 [] (c' := q_kc (0, r, m, z, N, ext, rx, L) I E 28 [some (.ref 473), some (.int x1), some (.int x2)] [.int (0 : Int32)] [] []) ok_X2_sameHeld rfl q_cn ?_
              cases hf
              exact q_kri ok_X2_sameHeld rfl rfl rfl (Nat.le_of_ble_eq_true rfl) (Nat.le_of_ble_eq_true rfl) ⟨rfl, q_hpe (q_pdw [] rfl rfl) (q_pdw [] rfl rfl)⟩
            · have hf := q_in h9 hf
              refine q_blk 2 [] (c' := q_kc (0, r, m, z, N, ext, rx, L) I E 28 [some (.ref 473), some (.int x1), some (.int x2)] [.int (1 : Int32)] [] []) ok_X2_sameHeld rfl q_cn ?_
              cases hf
              exact q_kri ok_X2_sameHeld rfl rfl rfl (Nat.le_of_ble_eq_true rfl) (Nat.le_of_ble_eq_true rfl) ⟨rfl, q_hpe (q_pdw [] rfl rfl) (q_pdw [] rfl rfl)⟩
set_option maxHeartbeats 4000000 in
theorem ct_X8_value_473 {g : q_G} {r : Nat} {m : Nat} {z : Nat} {N : Nat} {ext : Nat → q_Sh} {rx : Nat → Nat → Option Nat} {L : Nat → Nat → Int64} {d : Nat} (hd : 2 ≤ d)  {I : Nat → Nat → Int32} {E : Nat → Nat → Option Nat} {x1 : Nat} {x2 : Int32} {r0 : Int32} (hf : f_X8_value (I 402) (I 473) (I 477) (I 478) (I 481) (I 486) x1 x2 = some r0) : q_Ct g m_X8_value d 0 0 [] [.ref 473, .ref x1, .int x2] (q_hp (0, r, m, z, N, ext, rx, L) I E) (fun o h' => o = .inl (some (.int r0)) ∧ h' = q_hp (0, r, m, z, N, ext, rx, L) (q_ws I []) (q_ws E [])) := by
  rw [f_X8_value] at hf
  refine q_Ct_of ok_X8_value (Nat.le_of_ble_eq_true rfl) ?_ _ rfl rfl
  change q_J g m_X8_value d 0 0 _ [] _ 0 0 (q_kc (0, r, m, z, N, ext, rx, L) I E 0 [some (.ref 473), some (.ref x1), some (.int x2)] [] [] [])
  obtain ⟨ug1, hg1, hf⟩ := q_bd hf
  refine q_blk 2 [] (c' := q_kc (0, r, m, z, N, ext, rx, L) I E 2 [some (.ref 473), some (.ref x1), some (.int x2)] [.ref x1, .ref 50] [] []) ok_X8_value rfl q_cn ?_
  refine q_kord (pos' := 3) ok_X8_value rfl rfl (q_e49_lt hg1) (Nat.le_trans (Nat.le_of_ble_eq_true rfl) hd) (Nat.le_of_ble_eq_true rfl) (Nat.le_of_ble_eq_true rfl) (Nat.le_of_ble_eq_true rfl) rfl ?_
  obtain ⟨j1, hj1, hf⟩ := q_bd hf
  refine q_blk 1 [j1] (c' := q_kc (0, r, m, z, N, ext, rx, L) I E 4 [some (.ref 473), some (.ref x1), some (.int x2)] [.int (q_sw j1)] [] []) ok_X8_value rfl (q_cc hj1 q_cn) ?_
  refine q_ksw [36, 46, 5, 7, 10, 13, 16, 19, 22, 29] ok_X8_value rfl (dp := 46) rfl (fun ix t9 ht9 hx9 => ?_) (fun hx9 => ?_) (by decide) (by decide)
  · match ix, ht9 with
    | 0, ht9 =>
      have hx9 : (q_sw j1) = 7 := hx9
      cases ht9
      have hf := q_ip hx9 hf
      refine q_blk 2 [] (c' := q_kc (0, r, m, z, N, ext, rx, L) I E 38 [some (.ref 473), some (.ref x1), some (.int x2)] [.int x2, .ref 473] [] []) ok_X8_value rfl q_cn ?_
      obtain ⟨r2, hr2, hf⟩ := q_bd hf
      refine q_kV (M2 := m_X2_held) (As := [.int x2]) (b := 473) (v2 := some (.int r2)) ok_X8_value ok_X2_held cv_X2_held (ct_X2_held_473 (d := 1) (Nat.le_refl _) hr2) rfl rfl (Or.inl rfl) rfl rfl rfl rfl (Nat.le_trans (Nat.le_of_ble_eq_true rfl) hd) (Nat.le_of_ble_eq_true rfl) (Nat.le_of_ble_eq_true rfl) (Nat.le_of_ble_eq_true rfl) (fun x hx => absurd hx List.not_mem_nil) (q_nmL0 _) (q_nmS0 _) rfl (pos' := 39) (st' := [.int r2]) (lI' := []) (lE' := []) rfl rfl rfl rfl ?_
      refine q_blf 1 [] (a := q_kc (0, r, m, z, N, ext, rx, L) I E 43 [some (.ref 473), some (.ref x1), some (.int x2)] [] [] []) (b := q_kc (0, r, m, z, N, ext, rx, L) I E 41 [some (.ref 473), some (.ref x1), some (.int x2)] [] [] []) (P := r2 = (-1 : Int32)) ok_X8_value rfl q_cn (fun h3 => ?_) (fun h3 => ?_)
      · have hf := q_ip h3 hf
        refine q_blk 1 [] (c' := q_kc (0, r, m, z, N, ext, rx, L) I E 44 [some (.ref 473), some (.ref x1), some (.int x2)] [.int (0 : Int32)] [] []) ok_X8_value rfl q_cn ?_
        obtain ⟨r4, hr4, hf⟩ := q_bd hf
        refine q_kS (M2 := m_X8_one) (As := [.int (q_bz false)]) (v2 := some (.int r4)) ok_X8_value ok_X8_one cs_X8_one (ct_X8_one (d := 1) (Nat.le_refl _) hr4) rfl rfl (Or.inl rfl) (Nat.le_trans (Nat.le_of_ble_eq_true rfl) hd) (Nat.le_of_ble_eq_true rfl) (Nat.le_of_ble_eq_true rfl) (Nat.le_of_ble_eq_true rfl) (fun x hx => absurd hx List.not_mem_nil) (q_nmL0 _) (q_nmS0 _) rfl (pos' := 45) (st' := [.int r4]) (lI' := []) (lE' := []) rfl rfl rfl rfl ?_
        cases hf
        exact q_kri ok_X8_value rfl rfl rfl (Nat.le_of_ble_eq_true rfl) (Nat.le_of_ble_eq_true rfl) ⟨rfl, q_hpe (q_pdw [] rfl rfl) (q_pdw [] rfl rfl)⟩
      · have hf := q_in h3 hf
        refine q_blk 2 [] (c' := q_kc (0, r, m, z, N, ext, rx, L) I E 44 [some (.ref 473), some (.ref x1), some (.int x2)] [.int (1 : Int32)] [] []) ok_X8_value rfl q_cn ?_
        obtain ⟨r5, hr5, hf⟩ := q_bd hf
        refine q_kS (M2 := m_X8_one) (As := [.int (q_bz true)]) (v2 := some (.int r5)) ok_X8_value ok_X8_one cs_X8_one (ct_X8_one (d := 1) (Nat.le_refl _) hr5) rfl rfl (Or.inl rfl) (Nat.le_trans (Nat.le_of_ble_eq_true rfl) hd) (Nat.le_of_ble_eq_true rfl) (Nat.le_of_ble_eq_true rfl) (Nat.le_of_ble_eq_true rfl) (fun x hx => absurd hx List.not_mem_nil) (q_nmL0 _) (q_nmS0 _) rfl (pos' := 45) (st' := [.int r5]) (lI' := []) (lE' := []) rfl rfl rfl rfl ?_
        cases hf
        exact q_kri ok_X8_value rfl rfl rfl (Nat.le_of_ble_eq_true rfl) (Nat.le_of_ble_eq_true rfl) ⟨rfl, q_hpe (q_pdw [] rfl rfl) (q_pdw [] rfl rfl)⟩
    | 1, ht9 =>
      have hx9 : (q_sw j1) = 8 := hx9
      cases ht9
      have hf := q_in (fun hz9 => absurd (hx9.symm.trans hz9) (by decide)) hf
      have hf := q_ip hx9 hf
      refine q_blk 3 [] (c' := q_kc (0, r, m, z, N, ext, rx, L) I E 49 [some (.ref 473), some (.ref x1), some (.int x2)] [.int (6 : Int32), .int x2, .ref 473] [] []) ok_X8_value rfl q_cn ?_
      refine q_kdv (pos' := 50) ok_X8_value rfl (by decide) rfl ?_
      refine q_blk 2 [] (c' := q_kc (0, r, m, z, N, ext, rx, L) I E 52 [some (.ref 473), some (.ref x1), some (.int x2)] [.int (6 : Int32), .int x2, .int (x2 / (6 : Int32)), .ref 473] [] []) ok_X8_value rfl q_cn ?_
      refine q_krm (pos' := 53) ok_X8_value rfl (by decide) rfl ?_
      obtain ⟨r6, hr6, hf⟩ := q_bd hf
      refine q_kV (M2 := m_X2_sameHeld) (As := [.int (x2 / (6 : Int32)), .int (x2 - x2 / (6 : Int32) * (6 : Int32))]) (b := 473) (v2 := some (.int (q_bz r6))) ok_X8_value ok_X2_sameHeld cv_X2_sameHeld (ct_X2_sameHeld_473 (d := 1) (Nat.le_refl _) hr6) rfl rfl (Or.inl rfl) rfl rfl rfl rfl (Nat.le_trans (Nat.le_of_ble_eq_true rfl) hd) (Nat.le_of_ble_eq_true rfl) (Nat.le_of_ble_eq_true rfl) (Nat.le_of_ble_eq_true rfl) (fun x hx => absurd hx List.not_mem_nil) (q_nmL0 _) (q_nmS0 _) rfl (pos' := 54) (st' := [.int (q_bz r6)]) (lI' := []) (lE' := []) rfl rfl rfl rfl ?_
      obtain ⟨r7, hr7, hf⟩ := q_bd hf
      refine q_kS (M2 := m_X8_one) (As := [.int (q_bz r6)]) (v2 := some (.int r7)) ok_X8_value ok_X8_one cs_X8_one (ct_X8_one (d := 1) (Nat.le_refl _) hr7) rfl rfl (Or.inl rfl) (Nat.le_trans (Nat.le_of_ble_eq_true rfl) hd) (Nat.le_of_ble_eq_true rfl) (Nat.le_of_ble_eq_true rfl) (Nat.le_of_ble_eq_true rfl) (fun x hx => absurd hx List.not_mem_nil) (q_nmL0 _) (q_nmS0 _) rfl (pos' := 55) (st' := [.int r7]) (lI' := []) (lE' := []) rfl rfl rfl rfl ?_
      cases hf
      exact q_kri ok_X8_value rfl rfl rfl (Nat.le_of_ble_eq_true rfl) (Nat.le_of_ble_eq_true rfl) ⟨rfl, q_hpe (q_pdw [] rfl rfl) (q_pdw [] rfl rfl)⟩
    | 2, ht9 =>
      have hx9 : (q_sw j1) = 9 := hx9
      cases ht9
      have hf := q_in (fun hz9 => absurd (hx9.symm.trans hz9) (by decide)) hf
      have hf := q_in (fun hz9 => absurd (hx9.symm.trans hz9) (by decide)) hf
      have hf := q_ip hx9 hf
      refine q_blk 1 [] (c' := q_kc (0, r, m, z, N, ext, rx, L) I E 6 [some (.ref 473), some (.ref x1), some (.int x2)] [.int x2] [] []) ok_X8_value rfl q_cn ?_
      cases hf
      exact q_kri ok_X8_value rfl rfl rfl (Nat.le_of_ble_eq_true rfl) (Nat.le_of_ble_eq_true rfl) ⟨rfl, q_hpe (q_pdw [] rfl rfl) (q_pdw [] rfl rfl)⟩
    | 3, ht9 =>
      have hx9 : (q_sw j1) = 10 := hx9
      cases ht9
      have hf := q_in (fun hz9 => absurd (hx9.symm.trans hz9) (by decide)) hf
      have hf := q_in (fun hz9 => absurd (hx9.symm.trans hz9) (by decide)) hf
      have hf := q_in (fun hz9 => absurd (hx9.symm.trans hz9) (by decide)) hf
      have hf := q_ip hx9 hf
      refine q_blk 2 [] (c' := q_kc (0, r, m, z, N, ext, rx, L) I E 9 [some (.ref 473), some (.ref x1), some (.int x2)] [.int ((I 473) 10)] [] []) ok_X8_value rfl q_cn ?_
      cases hf
      exact q_kri ok_X8_value rfl rfl rfl (Nat.le_of_ble_eq_true rfl) (Nat.le_of_ble_eq_true rfl) ⟨rfl, q_hpe (q_pdw [] rfl rfl) (q_pdw [] rfl rfl)⟩
    | 4, ht9 =>
      have hx9 : (q_sw j1) = 11 := hx9
      cases ht9
      have hf := q_in (fun hz9 => absurd (hx9.symm.trans hz9) (by decide)) hf
      have hf := q_in (fun hz9 => absurd (hx9.symm.trans hz9) (by decide)) hf
      have hf := q_in (fun hz9 => absurd (hx9.symm.trans hz9) (by decide)) hf
      have hf := q_in (fun hz9 => absurd (hx9.symm.trans hz9) (by decide)) hf
      have hf := q_ip hx9 hf
      refine q_blk 2 [] (c' := q_kc (0, r, m, z, N, ext, rx, L) I E 12 [some (.ref 473), some (.ref x1), some (.int x2)] [.int ((I 473) 8)] [] []) ok_X8_value rfl q_cn ?_
      cases hf
      exact q_kri ok_X8_value rfl rfl rfl (Nat.le_of_ble_eq_true rfl) (Nat.le_of_ble_eq_true rfl) ⟨rfl, q_hpe (q_pdw [] rfl rfl) (q_pdw [] rfl rfl)⟩
    | 5, ht9 =>
      have hx9 : (q_sw j1) = 12 := hx9
      cases ht9
      have hf := q_in (fun hz9 => absurd (hx9.symm.trans hz9) (by decide)) hf
      have hf := q_in (fun hz9 => absurd (hx9.symm.trans hz9) (by decide)) hf
      have hf := q_in (fun hz9 => absurd (hx9.symm.trans hz9) (by decide)) hf
      have hf := q_in (fun hz9 => absurd (hx9.symm.trans hz9) (by decide)) hf
      have hf := q_in (fun hz9 => absurd (hx9.symm.trans hz9) (by decide)) hf
      have hf := q_ip hx9 hf
      refine q_blk 1 [] (c' := q_kc (0, r, m, z, N, ext, rx, L) I E 14 [some (.ref 473), some (.ref x1), some (.int x2)] [.ref 473] [] []) ok_X8_value rfl q_cn ?_
      obtain ⟨r8, hr8, hf⟩ := q_bd hf
      refine q_kV (M2 := m_X2_freePlaces) (As := []) (b := 473) (v2 := some (.int r8)) ok_X8_value ok_X2_freePlaces cv_X2_freePlaces (ct_X2_freePlaces_473 (d := 1) (Nat.le_refl _) hr8) rfl rfl (Or.inl rfl) rfl rfl rfl rfl (Nat.le_trans (Nat.le_of_ble_eq_true rfl) hd) (Nat.le_of_ble_eq_true rfl) (Nat.le_of_ble_eq_true rfl) (Nat.le_of_ble_eq_true rfl) (fun x hx => absurd hx List.not_mem_nil) (q_nmL0 _) (q_nmS0 _) rfl (pos' := 15) (st' := [.int r8]) (lI' := []) (lE' := []) rfl rfl rfl rfl ?_
      cases hf
      exact q_kri ok_X8_value rfl rfl rfl (Nat.le_of_ble_eq_true rfl) (Nat.le_of_ble_eq_true rfl) ⟨rfl, q_hpe (q_pdw [] rfl rfl) (q_pdw [] rfl rfl)⟩
    | 6, ht9 =>
      have hx9 : (q_sw j1) = 13 := hx9
      cases ht9
      have hf := q_in (fun hz9 => absurd (hx9.symm.trans hz9) (by decide)) hf
      have hf := q_in (fun hz9 => absurd (hx9.symm.trans hz9) (by decide)) hf
      have hf := q_in (fun hz9 => absurd (hx9.symm.trans hz9) (by decide)) hf
      have hf := q_in (fun hz9 => absurd (hx9.symm.trans hz9) (by decide)) hf
      have hf := q_in (fun hz9 => absurd (hx9.symm.trans hz9) (by decide)) hf
      have hf := q_in (fun hz9 => absurd (hx9.symm.trans hz9) (by decide)) hf
      have hf := q_ip hx9 hf
      refine q_blk 2 [] (c' := q_kc (0, r, m, z, N, ext, rx, L) I E 18 [some (.ref 473), some (.ref x1), some (.int x2)] [.int ((I 473) 12)] [] []) ok_X8_value rfl q_cn ?_
      cases hf
      exact q_kri ok_X8_value rfl rfl rfl (Nat.le_of_ble_eq_true rfl) (Nat.le_of_ble_eq_true rfl) ⟨rfl, q_hpe (q_pdw [] rfl rfl) (q_pdw [] rfl rfl)⟩
    | 7, ht9 =>
      have hx9 : (q_sw j1) = 14 := hx9
      cases ht9
      have hf := q_in (fun hz9 => absurd (hx9.symm.trans hz9) (by decide)) hf
      have hf := q_in (fun hz9 => absurd (hx9.symm.trans hz9) (by decide)) hf
      have hf := q_in (fun hz9 => absurd (hx9.symm.trans hz9) (by decide)) hf
      have hf := q_in (fun hz9 => absurd (hx9.symm.trans hz9) (by decide)) hf
      have hf := q_in (fun hz9 => absurd (hx9.symm.trans hz9) (by decide)) hf
      have hf := q_in (fun hz9 => absurd (hx9.symm.trans hz9) (by decide)) hf
      have hf := q_in (fun hz9 => absurd (hx9.symm.trans hz9) (by decide)) hf
      have hf := q_ip hx9 hf
      refine q_blk 1 [] (c' := q_kc (0, r, m, z, N, ext, rx, L) I E 20 [some (.ref 473), some (.ref x1), some (.int x2)] [.ref 473] [] []) ok_X8_value rfl q_cn ?_
      obtain ⟨r9, hr9, hf⟩ := q_bd hf
      refine q_kV (M2 := m_X2_baleCount) (As := []) (b := 473) (v2 := some (.int r9)) ok_X8_value ok_X2_baleCount cv_X2_baleCount (ct_X2_baleCount_473 (d := 1) (Nat.le_refl _) hr9) rfl rfl (Or.inl rfl) rfl rfl rfl rfl (Nat.le_trans (Nat.le_of_ble_eq_true rfl) hd) (Nat.le_of_ble_eq_true rfl) (Nat.le_of_ble_eq_true rfl) (Nat.le_of_ble_eq_true rfl) (fun x hx => absurd hx List.not_mem_nil) (q_nmL0 _) (q_nmS0 _) rfl (pos' := 21) (st' := [.int r9]) (lI' := []) (lE' := []) rfl rfl rfl rfl ?_
      cases hf
      exact q_kri ok_X8_value rfl rfl rfl (Nat.le_of_ble_eq_true rfl) (Nat.le_of_ble_eq_true rfl) ⟨rfl, q_hpe (q_pdw [] rfl rfl) (q_pdw [] rfl rfl)⟩
    | 8, ht9 =>
      have hx9 : (q_sw j1) = 15 := hx9
      cases ht9
      have hf := q_in (fun hz9 => absurd (hx9.symm.trans hz9) (by decide)) hf
      have hf := q_in (fun hz9 => absurd (hx9.symm.trans hz9) (by decide)) hf
      have hf := q_in (fun hz9 => absurd (hx9.symm.trans hz9) (by decide)) hf
      have hf := q_in (fun hz9 => absurd (hx9.symm.trans hz9) (by decide)) hf
      have hf := q_in (fun hz9 => absurd (hx9.symm.trans hz9) (by decide)) hf
      have hf := q_in (fun hz9 => absurd (hx9.symm.trans hz9) (by decide)) hf
      have hf := q_in (fun hz9 => absurd (hx9.symm.trans hz9) (by decide)) hf
      have hf := q_in (fun hz9 => absurd (hx9.symm.trans hz9) (by decide)) hf
      have hf := q_ip hx9 hf
      refine q_blk 4 [] (c' := q_kc (0, r, m, z, N, ext, rx, L) I E 26 [some (.ref 473), some (.ref x1), some (.int x2)] [.int x2, .ref 473, .ref 474] [] []) ok_X8_value rfl q_cn ?_
      obtain ⟨r10, hr10, hf⟩ := q_bd hf
      refine q_kV (M2 := m_X2_held) (As := [.int x2]) (b := 473) (v2 := some (.int r10)) ok_X8_value ok_X2_held cv_X2_held (ct_X2_held_473 (d := 1) (Nat.le_refl _) hr10) rfl rfl (Or.inl rfl) rfl rfl rfl rfl (Nat.le_trans (Nat.le_of_ble_eq_true rfl) hd) (Nat.le_of_ble_eq_true rfl) (Nat.le_of_ble_eq_true rfl) (Nat.le_of_ble_eq_true rfl) (fun x hx => absurd hx List.not_mem_nil) (q_nmL0 _) (q_nmS0 _) rfl (pos' := 27) (st' := [.int r10, .ref 474]) (lI' := []) (lE' := []) rfl rfl rfl rfl ?_
      obtain ⟨r11, hr11, hf⟩ := q_bd hf
      refine q_kV (M2 := m_X1_size) (As := [.int r10]) (b := 474) (v2 := some (.int r11)) ok_X8_value ok_X1_size cv_X1_size (ct_X1_size_474 (d := 1) (Nat.le_refl _) hr11) rfl rfl (Or.inl rfl) rfl rfl rfl rfl (Nat.le_trans (Nat.le_of_ble_eq_true rfl) hd) (Nat.le_of_ble_eq_true rfl) (Nat.le_of_ble_eq_true rfl) (Nat.le_of_ble_eq_true rfl) (fun x hx => absurd hx List.not_mem_nil) (q_nmL0 _) (q_nmS0 _) rfl (pos' := 28) (st' := [.int r11]) (lI' := []) (lE' := []) rfl rfl rfl rfl ?_
      cases hf
      exact q_kri ok_X8_value rfl rfl rfl (Nat.le_of_ble_eq_true rfl) (Nat.le_of_ble_eq_true rfl) ⟨rfl, q_hpe (q_pdw [] rfl rfl) (q_pdw [] rfl rfl)⟩
    | 9, ht9 =>
      have hx9 : (q_sw j1) = 16 := hx9
      cases ht9
      have hf := q_in (fun hz9 => absurd (hx9.symm.trans hz9) (by decide)) hf
      have hf := q_in (fun hz9 => absurd (hx9.symm.trans hz9) (by decide)) hf
      have hf := q_in (fun hz9 => absurd (hx9.symm.trans hz9) (by decide)) hf
      have hf := q_in (fun hz9 => absurd (hx9.symm.trans hz9) (by decide)) hf
      have hf := q_in (fun hz9 => absurd (hx9.symm.trans hz9) (by decide)) hf
      have hf := q_in (fun hz9 => absurd (hx9.symm.trans hz9) (by decide)) hf
      have hf := q_in (fun hz9 => absurd (hx9.symm.trans hz9) (by decide)) hf
      have hf := q_in (fun hz9 => absurd (hx9.symm.trans hz9) (by decide)) hf
      have hf := q_in (fun hz9 => absurd (hx9.symm.trans hz9) (by decide)) hf
      have hf := q_ip hx9 hf
      refine q_blk 4 [] (c' := q_kc (0, r, m, z, N, ext, rx, L) I E 33 [some (.ref 473), some (.ref x1), some (.int x2)] [.int x2, .ref 473, .ref 474] [] []) ok_X8_value rfl q_cn ?_
      obtain ⟨r12, hr12, hf⟩ := q_bd hf
      refine q_kV (M2 := m_X2_held) (As := [.int x2]) (b := 473) (v2 := some (.int r12)) ok_X8_value ok_X2_held cv_X2_held (ct_X2_held_473 (d := 1) (Nat.le_refl _) hr12) rfl rfl (Or.inl rfl) rfl rfl rfl rfl (Nat.le_trans (Nat.le_of_ble_eq_true rfl) hd) (Nat.le_of_ble_eq_true rfl) (Nat.le_of_ble_eq_true rfl) (Nat.le_of_ble_eq_true rfl) (fun x hx => absurd hx List.not_mem_nil) (q_nmL0 _) (q_nmS0 _) rfl (pos' := 34) (st' := [.int r12, .ref 474]) (lI' := []) (lE' := []) rfl rfl rfl rfl ?_
      obtain ⟨r13, hr13, hf⟩ := q_bd hf
      refine q_kV (M2 := m_X1_age) (As := [.int r12]) (b := 474) (v2 := some (.int r13)) ok_X8_value ok_X1_age cv_X1_age (ct_X1_age_474 (d := 1) (Nat.le_refl _) hr13) rfl rfl (Or.inl rfl) rfl rfl rfl rfl (Nat.le_trans (Nat.le_of_ble_eq_true rfl) hd) (Nat.le_of_ble_eq_true rfl) (Nat.le_of_ble_eq_true rfl) (Nat.le_of_ble_eq_true rfl) (fun x hx => absurd hx List.not_mem_nil) (q_nmL0 _) (q_nmS0 _) rfl (pos' := 35) (st' := [.int r13]) (lI' := []) (lE' := []) rfl rfl rfl rfl ?_
      cases hf
      exact q_kri ok_X8_value rfl rfl rfl (Nat.le_of_ble_eq_true rfl) (Nat.le_of_ble_eq_true rfl) ⟨rfl, q_hpe (q_pdw [] rfl rfl) (q_pdw [] rfl rfl)⟩
    | z9 + 10, ht9 => cases ht9
  · have hf := q_in (hx9 0 (by decide)) hf
    have hf := q_in (hx9 1 (by decide)) hf
    have hf := q_in (hx9 2 (by decide)) hf
    have hf := q_in (hx9 3 (by decide)) hf
    have hf := q_in (hx9 4 (by decide)) hf
    have hf := q_in (hx9 5 (by decide)) hf
    have hf := q_in (hx9 6 (by decide)) hf
    have hf := q_in (hx9 7 (by decide)) hf
    have hf := q_in (hx9 8 (by decide)) hf
    have hf := q_in (hx9 9 (by decide)) hf
    refine q_blk 3 [] (c' := q_kc (0, r, m, z, N, ext, rx, L) I E 49 [some (.ref 473), some (.ref x1), some (.int x2)] [.int (6 : Int32), .int x2, .ref 473] [] []) ok_X8_value rfl q_cn ?_
    refine q_kdv (pos' := 50) ok_X8_value rfl (by decide) rfl ?_
    refine q_blk 2 [] (c' := q_kc (0, r, m, z, N, ext, rx, L) I E 52 [some (.ref 473), some (.ref x1), some (.int x2)] [.int (6 : Int32), .int x2, .int (x2 / (6 : Int32)), .ref 473] [] []) ok_X8_value rfl q_cn ?_
    refine q_krm (pos' := 53) ok_X8_value rfl (by decide) rfl ?_
    obtain ⟨r14, hr14, hf⟩ := q_bd hf
    refine q_kV (M2 := m_X2_sameHeld) (As := [.int (x2 / (6 : Int32)), .int (x2 - x2 / (6 : Int32) * (6 : Int32))]) (b := 473) (v2 := some (.int (q_bz r14))) ok_X8_value ok_X2_sameHeld cv_X2_sameHeld (ct_X2_sameHeld_473 (d := 1) (Nat.le_refl _) hr14) rfl rfl (Or.inl rfl) rfl rfl rfl rfl (Nat.le_trans (Nat.le_of_ble_eq_true rfl) hd) (Nat.le_of_ble_eq_true rfl) (Nat.le_of_ble_eq_true rfl) (Nat.le_of_ble_eq_true rfl) (fun x hx => absurd hx List.not_mem_nil) (q_nmL0 _) (q_nmS0 _) rfl (pos' := 54) (st' := [.int (q_bz r14)]) (lI' := []) (lE' := []) rfl rfl rfl rfl ?_
    obtain ⟨r15, hr15, hf⟩ := q_bd hf
    refine q_kS (M2 := m_X8_one) (As := [.int (q_bz r14)]) (v2 := some (.int r15)) ok_X8_value ok_X8_one cs_X8_one (ct_X8_one (d := 1) (Nat.le_refl _) hr15) rfl rfl (Or.inl rfl) (Nat.le_trans (Nat.le_of_ble_eq_true rfl) hd) (Nat.le_of_ble_eq_true rfl) (Nat.le_of_ble_eq_true rfl) (Nat.le_of_ble_eq_true rfl) (fun x hx => absurd hx List.not_mem_nil) (q_nmL0 _) (q_nmS0 _) rfl (pos' := 55) (st' := [.int r15]) (lI' := []) (lE' := []) rfl rfl rfl rfl ?_
    cases hf
    exact q_kri ok_X8_value rfl rfl rfl (Nat.le_of_ble_eq_true rfl) (Nat.le_of_ble_eq_true rfl) ⟨rfl, q_hpe (q_pdw [] rfl rfl) (q_pdw [] rfl rfl)⟩
