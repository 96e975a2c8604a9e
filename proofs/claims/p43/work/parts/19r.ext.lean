/-! what the printed walks want besides: constants' own methods, texts -/
theorem q_kd_out {ci v j : Nat} (h : 24 ≤ j) : q_kd ci v j = 9 := by
  unfold q_kd
  cases h1 : q_nth q_kdt ci with
  | none => rfl
  | some t =>
    dsimp only
    cases h2 : q_nth t v with
    | none => rfl
    | some r =>
      dsimp only
      have hc : (q_kdt.all fun t => t.all fun r => Nat.ble r.length 23) = true := by decide +kernel
      rw [q_nth_eq] at h1 h2
      have h3 := List.all_eq_true.mp hc t (List.mem_of_getElem? h1)
      have h4 := Nat.le_of_ble_eq_true (List.all_eq_true.mp h3 r (List.mem_of_getElem? h2))
      rw [q_nth_eq, List.getElem?_eq_none (by omega)]
def q_othc (ci v k : Nat) : Bool := (List.range 24).all fun j => Nat.beq j k || (Nat.beq (q_kd ci 0 j) 9 || Nat.beq (q_kd ci v j) (q_kd ci 0 j))
theorem q_oth_of {ci v k : Nat} (hc : q_othc ci v k = true) : ∀ j, j ≠ k → q_kd ci 0 j ≠ 9 → q_kd ci v j = q_kd ci 0 j := by
  intro j h1 h2
  by_cases hj : j < 24
  · unfold q_othc at hc
    rw [List.all_eq_true] at hc
    have := hc j (List.mem_range.mpr hj)
    rw [q_beqN h1, Bool.false_or, Bool.or_eq_true] at this
    rcases this with h3 | h3
    · exact absurd (Nat.eq_of_beq_eq_true h3) h2
    · exact Nat.eq_of_beq_eq_true h3
  · rw [q_kd_out (by omega), q_kd_out (by omega)]
theorem q_nrS_of {st : List Value} {N : Nat} (h : (st.all fun v => match v with | .ref _ => false | _ => true) = true) : ∀ a, Value.ref a ∈ st → a < N := by
  intro a ha
  have := List.all_eq_true.mp h _ ha
  cases this
theorem q_nrL_of {ls : List (Option Value)} {N : Nat} (h : (ls.all fun v => match v with | some (.ref _) => false | _ => true) = true) : ∀ i a, q_nth ls i = some (some (.ref a)) → a < N := by
  intro i a ha
  rw [q_nth_eq] at ha
  have := List.all_eq_true.mp h _ (List.mem_of_getElem? ha)
  cases this
theorem q_shr0 (x : Int32) : x >>> ((0 : Int32) &&& 31) = x := by
  rw [show (0 : Int32) &&& 31 = 0 from by decide]
  simp
section QEXT
variable {g : q_G} {M M2 : q_M} {d mc ms d2 mc2 ms2 : Nat} {h0 : q_H} {mv mv2 : List Nat} {Q Q2 : (Option Value ⊕ String) → q_H → Prop} {k n pos pos' pc ln a1 a2 w1 w2 a ci v v2 idx L j b B : Nat} {ls ls' : List (Option Value)} {r st st' As rest : List Value} {h : q_H}
variable {X X2 : q_Am} {I : Nat → Nat → Int32} {E : Nat → Nat → Option Nat} {lI lI' l2I : List (Nat × (Nat → Int32))} {lE lE' l2E : List (Nat × (Nat → Option Nat))} {i x : Int32}
theorem q_callX {C : String} (hok : q_okM M = true) (hok2 : q_okM M2 = true) (he : q_nth M.2.2.2.2.1 pos = some (pc, .invokevirtual idx, ln, a1, a2, w1, w2)) (hw : q_lk M idx M2.1 (q_gw w1 w2)) (hcv : q_cvP M2 As.length)
    (hb4 : b < 400) (hO : ∀ ρ A U H, q_Ext g ρ A U H → va_O C (ρ b) A U H) (hC2 : C = M2.1.cls) (hCt : q_Ct g M2 d2 mc2 ms2 mv2 (.ref b :: As) h Q2) (hd : d2 + 1 ≤ d) (hk : k + mc2 ≤ mc) (hn : n + ms2 ≤ ms) (hcat : (rest.map fun v => v.category).sum ≤ 8)
    (hmv : ∀ x ∈ mv2, x ∈ mv) (hm1 : ∀ i a, q_nth ls i = some (some (.ref a)) → a ∉ mv2) (hm2 : ∀ a, Value.ref a ∈ rest → a ∉ mv2) (hst' : st = As.reverse ++ .ref b :: rest)
    (hR : ∀ v h', Q2 (.inl v) h' → q_J g M d mc ms h0 mv Q (k + mc2) (n + ms2) (pos + 1, ls, v.toList ++ rest, h')) (hX2 : ∀ E h', Q2 (.inr E) h' → Q (.inr E) h') : q_J g M d mc ms h0 mv Q k n (pos, ls, st, h) := by
  obtain rfl : ln = 3 := (q_at hok he).2.2.1 (Nat.succ_ne_zero _)
  intro p e s m args below meth cd D cA ρ0 ρ A H locs rls en hen hB hS
  cases he.symm.trans hen
  obtain ⟨hdg, hnx, -, -⟩ := q_at hok he
  obtain ⟨en', he', hpc⟩ := hnx rfl
  obtain ⟨hx, hb, hr0, hml, hts, hown, hlk, hnm, hxt⟩ := id hB
  obtain ⟨hK, hW, hVS, hX, hC, hst, hls, hlh, hag, hag2, hA, hn1, hn2⟩ := id hS
  obtain ⟨c1, c2, c3, c4, c5⟩ := hcv
  obtain ⟨f1, f2, f3, f4, f5, f6, f7⟩ := q_CB (p := p) (s := s) (args := args) (na := As.length) (d2 := d2) (mc2 := mc2) (ms2 := ms2) (d := d) (mc := mc) (ms := ms) hok2 hts hd
  have hbn : b < q_nx h := Nat.lt_of_lt_of_le hb4 hn1
  have hAs : ∀ x ∈ Value.ref b :: As, q_vcl h x := by
    intro x hx
    rcases List.mem_cons.mp hx with rfl | hx
    · exact fun a ha => by cases ha; exact hbn
    · exact hst x (by show _ ∈ st; rw [hst']; simp [hx])
  have hrecv : ∃ cell : Cell, H[ρ b]? = some cell ∧ cell.vm.isStatics = false ∧ s.vm.findClass C = some cell.cls := by
    obtain ⟨cell, g1, g2, g3, g4⟩ := hO _ _ _ _ hX
    refine ⟨cell, ?_, g2, g3⟩
    rw [hag2 b hb4, hVS.2.1 _ (Array.getElem?_eq_some_iff.mp g1).1 g4]
    exact g1
  have hpre : PreV s H C (ρ b) (q_Pc g D cA ρ h H.size (.ref b :: As)) (As.map (q_vz ρ)) := ⟨q_Pc_blind, hrecv, fun U hU hWm => q_Pc_at hS hAs U hU hWm⟩
  subst hC2
  have hstk : (F0 m pc rls (st.map (q_vz ρ))).stack = (As.map (q_vz ρ)).reverse ++ .ref (ρ b) :: rest.map (q_vz ρ) := by
    show st.map (q_vz ρ) = _
    rw [hst', List.map_append, List.map_cons, List.map_reverse]; rfl
  have hM := hCt D cA ρ H.size
  refine q_run_go (aa := (Value.ref (ρ b) :: As.map (q_vz ρ)).toArray) hB hS he' hpc (fun x hx => by rw [hst']; simp [hx]) hk hn hmv hm1 hm2 ?_ hR hX2
  rcases hw with hw | ⟨host, hw⟩
  · exact vx_runV (As := As.map (q_vz ρ)) (rest := rest.map (q_vz ρ)) (n := As.length) (Ts := q_tb) ⟨hx, hb, hml, hown, hts⟩ hM ⟨⟨f1, f2, f3, f4, f5, f6, f7, hts _ c3, c4, q_par c5, hts _ (q_gw_in hw rfl)⟩, hts _ c1, hts _ c2⟩ hpre rfl (List.length_map _) hlh.1 hstk (lv_room (q_cat8 hcat)) hdg ⟨hk, hn⟩
  · exact vx_runVN (As := As.map (q_vz ρ)) (rest := rest.map (q_vz ρ)) (n := As.length) (Ts := q_tb) (host := host) ⟨hx, hb, hml, hown, hts⟩ hM ⟨⟨⟨f1, f2, f3, f4, f5, f6⟩, f7, hts _ c3, c4, q_par c5, q_Xn hX (q_gw_in2 hw) rfl rfl⟩, hts _ c1, hts _ c2⟩ hpre rfl (List.length_map _) hlh.1 hstk (lv_room (q_cat8 hcat)) hdg ⟨hk, hn⟩
theorem ct_ordinal (hd : 1 ≤ d) (hb : b < 49) : q_Ct g m_Jx29ce0_ordinal_8abf5 d 0 0 [] [.ref b] h (fun o h' => o = .inl (some (.int (nI b))) ∧ h' = h) := by
  refine q_Ct_of ok_Jx29ce0_ordinal_8abf5 (Nat.le_of_ble_eq_true rfl) ?_ _ rfl rfl
  refine q_go 1 (c' := (1, [some (.ref b)], [.ref b], h)) ok_Jx29ce0_ordinal_8abf5 rfl ?_
  refine q_o_xord ok_Jx29ce0_ordinal_8abf5 rfl hb rfl ?_
  exact q_o_iret ok_Jx29ce0_ordinal_8abf5 rfl rfl rfl (Nat.le_refl _) (Nat.le_refl _) ⟨rfl, rfl⟩
theorem q_ordC : Jvm.Cond.sameMethod "HayBarn$Sign" "java/lang/Enum" "ordinal" "()I" ∈ q_tb := List.mem_filter.mpr ⟨by decide +kernel, rfl⟩
theorem q_ordS : Jvm.Cond.selects "HayBarn$Sign" ⟨"HayBarn$Sign", "ordinal", "()I"⟩ yJx29ce0_ordinal_8abf5 ∈ q_tb := List.mem_filter.mpr ⟨by decide +kernel, rfl⟩
theorem q_ordI : Jvm.Cond.instanceMethod yJx29ce0_ordinal_8abf5 ∈ q_tb := List.mem_filter.mpr ⟨by decide +kernel, rfl⟩
theorem q_ordN : Jvm.Cond.initialized "java/lang/Enum" ∈ q_tb := List.mem_filter.mpr ⟨by decide +kernel, rfl⟩
theorem q_kord (hok : q_okM M = true) (he : q_nth M.2.2.2.2.1 pos = some (pc, .invokevirtual idx, ln, a1, a2, w1, w2)) (hw : q_gw w1 w2 = some (.methodLink M.1.cls idx ⟨"HayBarn$Sign", "ordinal", "()I"⟩)) (hb : b < 49) (hd : 2 ≤ d) (hcat : (r.map fun v => v.category).sum ≤ 8) (hk : k ≤ mc) (hn : n ≤ ms) (hp : pos + 1 = pos')
    (hJ : q_J g M d mc ms h0 mv Q k n (q_kc X I E pos' ls (.int (nI b) :: r) lI lE)) : q_J g M d mc ms h0 mv Q k n (q_kc X I E pos ls (.ref b :: r) lI lE) := by
  subst hp
  obtain rfl : ln = 3 := (q_at hok he).2.2.1 (Nat.succ_ne_zero _)
  intro p e s m args below meth cd D cA ρ0 ρ A H locs rls en hen hB hS
  cases he.symm.trans hen
  obtain ⟨hdg, hnx, -, -⟩ := q_at hok he
  obtain ⟨en', he', hpc⟩ := hnx rfl
  obtain ⟨hx, hb0, hr0, hml, hts, hown, hlk, hnm, hxt⟩ := id hB
  obtain ⟨hK, hW, hVS, hX, hC, hst, hls, hlh, hag, hag2, hA, hn1, hn2⟩ := id hS
  obtain ⟨f1, f2, f3, f4, f5, f6, f7⟩ := q_CB (p := p) (s := s) (args := args) (na := 0) (d2 := 1) (mc2 := 0) (ms2 := 0) (d := d) (mc := mc) (ms := ms) ok_Jx29ce0_ordinal_8abf5 hts hd
  have hAs : ∀ x ∈ [Value.ref b], q_vcl (q_hp X (q_ws I lI) (q_ws E lE)) x := by
    intro x hx
    cases List.mem_singleton.mp hx
    exact fun a ha => by cases ha; exact Nat.lt_of_lt_of_le (show b < 400 by omega) hn1
  have hrecv : ∃ cell : Cell, H[ρ b]? = some cell ∧ cell.vm.isStatics = false ∧ s.vm.findClass "HayBarn$Sign" = some cell.cls := by
    obtain ⟨cell, g1, g2, g3, g4⟩ := (hX.2.2.1 b hb).1
    refine ⟨cell, ?_, g2, g3⟩
    rw [hag2 b (by omega), hVS.2.1 _ (Array.getElem?_eq_some_iff.mp g1).1 g4]
    exact g1
  have hpre : PreV s H "HayBarn$Sign" (ρ b) (q_Pc g D cA ρ (q_hp X (q_ws I lI) (q_ws E lE)) H.size [.ref b]) [] := ⟨q_Pc_blind, hrecv, fun U hU hWm => q_Pc_at hS hAs U hU hWm⟩
  have hM := (ct_ordinal (g := g) (h := q_hp X (q_ws I lI) (q_ws E lE)) (Nat.le_refl 1) hb) D cA ρ H.size
  refine q_run_go (aa := (Value.ref (ρ b) :: ([] : List Value)).toArray) (mc2 := 0) (ms2 := 0) (mv2 := []) (rest := r) hB hS he' hpc (fun x hx => List.mem_cons_of_mem _ hx) hk hn (fun x hx => absurd hx List.not_mem_nil) (fun _ _ _ => List.not_mem_nil) (fun _ _ => List.not_mem_nil) (Q2 := fun o h' => o = .inl (some (.int (nI b))) ∧ h' = q_hp X (q_ws I lI) (q_ws E lE)) ?_ (fun v h' hq => ?_) (fun E9 h' hq => by cases hq.1)
  · exact vx_runU (As := []) (rest := r.map (q_vz ρ)) (n := 0) (Ts := q_tb) (C := "HayBarn$Sign") (owner := "java/lang/Enum") (x := ⟨"HayBarn$Sign", "ordinal", "()I"⟩) ⟨hx, hb0, hml, hown, hts⟩ hM ⟨⟨f1, f2, f3, f4, f5, f6⟩, f7, hts _ q_ordN, ⟨by decide, by decide⟩, q_par (by decide +kernel), hts _ (q_gw_in hw rfl), hts _ q_ordC, va_Decl.of (hts _ q_ordI) f7, hts _ q_ordS, hts _ q_ordI⟩ hpre rfl rfl hlh.1 rfl (lv_room (q_cat8 hcat)) hdg ⟨hk, hn⟩
  · obtain ⟨e1, e2⟩ := hq
    cases e1
    rw [e2]
    exact hJ
theorem q_strO (hb : q_isStr b = true) : ∀ ρ A U H, q_Ext g ρ A U H → va_O "java/lang/String" (ρ b) A U H := fun ρ A U H hX => (hX.2.2.2.2.2.2.2.2.1 b hb).1
theorem ct_coder (hd : 1 ≤ d) (hb : q_isStr b = true ∧ b < 300) : q_Ct g m_J0_coder_7d493 d 0 0 [] [.ref b] h (fun o h' => o = .inl (some (.int 0)) ∧ h' = h) := by
  refine q_Ct_of ok_J0_coder_7d493 (Nat.le_of_ble_eq_true rfl) ?_ _ rfl rfl
  refine q_o_xcompact ok_J0_coder_7d493 rfl rfl ?_
  refine q_if 1 (P := (1 : Int32) = 0) (a := (5, [some (.ref b)], [], h)) (b := (2, [some (.ref b)], [], h)) ok_J0_coder_7d493 rfl (fun h => absurd h (by decide)) (fun _ => ?_)
  refine q_go 1 (c' := (3, [some (.ref b)], [.ref b], h)) ok_J0_coder_7d493 rfl ?_
  refine q_o_xcoder ok_J0_coder_7d493 rfl hb.1 hb.2 rfl ?_
  refine q_go 1 (c' := (6, [some (.ref b)], [.int 0], h)) ok_J0_coder_7d493 rfl ?_
  exact q_o_iret ok_J0_coder_7d493 rfl rfl rfl (Nat.le_refl _) (Nat.le_refl _) ⟨rfl, rfl⟩
theorem ct_latin (hd : 1 ≤ d) (hb : q_isStr b = true ∧ b < 300) : q_Ct g m_J0_isLatin1_aae02 d 0 0 [] [.ref b] h (fun o h' => o = .inl (some (.int 1)) ∧ h' = h) := by
  refine q_Ct_of ok_J0_isLatin1_aae02 (Nat.le_of_ble_eq_true rfl) ?_ _ rfl rfl
  refine q_o_xcompact ok_J0_isLatin1_aae02 rfl rfl ?_
  refine q_if 1 (P := (1 : Int32) = 0) (a := (7, [some (.ref b)], [], h)) (b := (2, [some (.ref b)], [], h)) ok_J0_isLatin1_aae02 rfl (fun h => absurd h (by decide)) (fun _ => ?_)
  refine q_go 1 (c' := (3, [some (.ref b)], [.ref b], h)) ok_J0_isLatin1_aae02 rfl ?_
  refine q_o_xcoder ok_J0_isLatin1_aae02 rfl hb.1 hb.2 rfl ?_
  refine q_if 1 (P := ¬ (0 : Int32) = 0) (a := (7, [some (.ref b)], [], h)) (b := (5, [some (.ref b)], [], h)) ok_J0_isLatin1_aae02 rfl (fun h => absurd rfl h) (fun _ => ?_)
  refine q_go 2 (c' := (8, [some (.ref b)], [.int 1], h)) ok_J0_isLatin1_aae02 rfl ?_
  exact q_o_iret ok_J0_isLatin1_aae02 rfl rfl rfl (Nat.le_refl _) (Nat.le_refl _) ⟨rfl, rfl⟩
theorem ct_slen (hd : 2 ≤ d) (hb : q_isStr b = true ∧ b < 300) : q_Ct g m_J0_length_8abf5 d 0 0 [] [.ref b] h (fun o h' => o = .inl (some (.int (nI (q_str b).length))) ∧ h' = h) := by
  refine q_Ct_of ok_J0_length_8abf5 (Nat.le_of_ble_eq_true rfl) ?_ _ rfl rfl
  refine q_go 1 (c' := (1, [some (.ref b)], [.ref b], h)) ok_J0_length_8abf5 rfl ?_
  refine q_o_xvalue ok_J0_length_8abf5 rfl hb.1 hb.2 rfl ?_
  refine q_o_xslen ok_J0_length_8abf5 rfl hb.1 hb.2 ?_
  refine q_go 1 (c' := (4, [some (.ref b)], [.ref b, .int (nI (q_str b).length)], h)) ok_J0_length_8abf5 rfl ?_
  refine q_callX (M2 := m_J0_coder_7d493) (As := []) (rest := [.int (nI (q_str b).length)]) ok_J0_length_8abf5 ok_J0_coder_7d493 rfl (Or.inl rfl) cv_J0_coder_7d493 (by omega) (q_strO hb.1) rfl (ct_coder (d := 1) (Nat.le_refl _) hb) hd (Nat.le_refl _) (Nat.le_refl _) (Nat.le_of_ble_eq_true rfl) (fun x hx => absurd hx List.not_mem_nil) (fun _ _ _ => List.not_mem_nil) (fun _ _ => List.not_mem_nil) rfl (fun v h' hq => ?_) (fun E9 h' hq => by cases hq.1)
  obtain ⟨e1, e2⟩ := hq
  cases e1; subst e2
  refine q_go 1 (c' := (6, [some (.ref b)], [.int (nI (q_str b).length >>> ((0 : Int32) &&& 31))], h')) ok_J0_length_8abf5 rfl ?_
  rw [q_shr0]
  exact q_o_iret ok_J0_length_8abf5 rfl rfl rfl (Nat.le_refl _) (Nat.le_refl _) ⟨rfl, rfl⟩
theorem ct_pcheck (hd : 1 ≤ d) {f : Value} {i : Int32} {L : Nat} (hf : f = .null ∨ f = .ref 399) (hi : ¬ i < 0) (hl : i < nI L) : q_Ct g m_J3_checkIndex_8e157 d 0 0 [] [.int i, .int (nI L), f] h (fun o h' => o = .inl (some (.int i)) ∧ h' = h) := by
  rcases hf with rfl | rfl
  · refine q_Ct_of ok_J3_checkIndex_8e157 (Nat.le_of_ble_eq_true rfl) ?_ _ rfl rfl
    refine q_if 2 (P := i < 0) (a := (5, [some (.int i), some (.int (nI L)), some .null], [], h)) (b := (2, [some (.int i), some (.int (nI L)), some .null], [], h)) ok_J3_checkIndex_8e157 rfl (fun h => absurd h hi) (fun _ => ?_)
    refine q_if 3 (P := i < nI L) (a := (10, [some (.int i), some (.int (nI L)), some .null], [], h)) (b := (5, [some (.int i), some (.int (nI L)), some .null], [], h)) ok_J3_checkIndex_8e157 rfl (fun _ => ?_) (fun h => absurd hl h)
    refine q_go 1 (c' := (11, [some (.int i), some (.int (nI L)), some .null], [.int i], h)) ok_J3_checkIndex_8e157 rfl ?_
    exact q_o_iret ok_J3_checkIndex_8e157 rfl rfl rfl (Nat.le_refl _) (Nat.le_refl _) ⟨rfl, rfl⟩
  · refine q_Ct_of ok_J3_checkIndex_8e157 (Nat.le_of_ble_eq_true rfl) ?_ _ rfl rfl
    refine q_if 2 (P := i < 0) (a := (5, [some (.int i), some (.int (nI L)), some (.ref 399)], [], h)) (b := (2, [some (.int i), some (.int (nI L)), some (.ref 399)], [], h)) ok_J3_checkIndex_8e157 rfl (fun h => absurd h hi) (fun _ => ?_)
    refine q_if 3 (P := i < nI L) (a := (10, [some (.int i), some (.int (nI L)), some (.ref 399)], [], h)) (b := (5, [some (.int i), some (.int (nI L)), some (.ref 399)], [], h)) ok_J3_checkIndex_8e157 rfl (fun _ => ?_) (fun h => absurd hl h)
    refine q_go 1 (c' := (11, [some (.int i), some (.int (nI L)), some (.ref 399)], [.int i], h)) ok_J3_checkIndex_8e157 rfl ?_
    exact q_o_iret ok_J3_checkIndex_8e157 rfl rfl rfl (Nat.le_refl _) (Nat.le_refl _) ⟨rfl, rfl⟩
theorem ct_scheck (hd : 2 ≤ d) {i : Int32} {L : Nat} (hi : ¬ i < 0) (hl : i < nI L) : q_Ct g m_J0_checkIndex_df160 d 0 0 [] [.int i, .int (nI L)] h (fun o h' => o = .inl none ∧ h' = h) := by
  refine q_Ct_of ok_J0_checkIndex_df160 (Nat.le_of_ble_eq_true rfl) ?_ _ rfl rfl
  refine q_go 2 (c' := (2, [some (.int i), some (.int (nI L))], [.int (nI L), .int i], h)) ok_J0_checkIndex_df160 rfl ?_
  have key : ∀ f : Value, (f = .null ∨ f = .ref 399) → q_J g m_J0_checkIndex_df160 d 0 0 h [] (fun o h' => o = .inl none ∧ h' = h) 0 0 (2 + 1, [some (.int i), some (.int (nI L))], [f, .int (nI L), .int i], h) := by
    intro f hf
    refine q_callS (M2 := m_J3_checkIndex_8e157) (As := [.int i, .int (nI L), f]) (rest := []) ok_J0_checkIndex_df160 ok_J3_checkIndex_8e157 rfl (Or.inl rfl) cs_J3_checkIndex_8e157 (ct_pcheck (d := 1) (Nat.le_refl _) hf hi hl) hd (Nat.le_refl _) (Nat.le_refl _) (Nat.le_of_ble_eq_true rfl) (fun x hx => absurd hx List.not_mem_nil) (fun _ _ _ => List.not_mem_nil) (fun _ _ => List.not_mem_nil) rfl (fun v h' hq => ?_) (fun E9 h' hq => by cases hq.1)
    obtain ⟨e1, e2⟩ := hq
    cases e1; subst e2
    refine q_go 1 (c' := (5, [some (.int i), some (.int (nI L))], [], h')) ok_J0_checkIndex_df160 rfl ?_
    exact q_o_vret ok_J0_checkIndex_df160 rfl rfl (Nat.le_refl _) (Nat.le_refl _) ⟨rfl, rfl⟩
  exact q_o_xsioobe ok_J0_checkIndex_df160 rfl rfl (key _ (Or.inl rfl)) (key _ (Or.inr rfl))
def q_strc : Bool := (List.range 300).all fun b => Nat.blt (q_str b).length 65536 && (q_str b).all fun v => decide (((v &&& 255).toUInt32 % 65536).toInt32 = v) && (decide (narrow .char (.int v) = .int v) && decide (0 ≤ v))
theorem q_strc_ok : q_strc = true := by decide +kernel
theorem q_str_at {b : Nat} (hb : b < 300) : (q_str b).length < 65536 ∧ ∀ v ∈ q_str b, ((v &&& 255).toUInt32 % 65536).toInt32 = v ∧ narrow .char (.int v) = .int v := by
  have h := List.all_eq_true.mp q_strc_ok b (List.mem_range.mpr hb)
  simp only [Bool.and_eq_true] at h
  refine ⟨Nat.blt_eq.mp h.1, fun v hv => ?_⟩
  have h2 := List.all_eq_true.mp h.2 v hv
  simp only [Bool.and_eq_true, decide_eq_true_eq] at h2
  exact ⟨h2.1, h2.2.1⟩
theorem q_getD_mem {l : List Int32} {j : Nat} (hj : j < l.length) : l.getD j 0 ∈ l := by
  rw [List.getD_eq_getElem?_getD, List.getElem?_eq_getElem hj]
  exact List.getElem_mem hj
theorem ct_lchar (hd : 3 ≤ d) (hb : q_isStr b = true ∧ b < 300) (hj : j < (q_str b).length) : q_Ct g m_J1_charAt_3b067 d 0 0 [] [.ref (100 + b), .int (nI j)] h (fun o h' => o = .inl (some (.int ((q_str b).getD j 0))) ∧ h' = h) := by
  obtain ⟨hL, hv⟩ := q_str_at hb.2
  obtain ⟨hv1, hv2⟩ := hv _ (q_getD_mem hj)
  refine q_Ct_of ok_J1_charAt_3b067 (Nat.le_of_ble_eq_true rfl) ?_ _ rfl rfl
  refine q_go 2 (c' := (2, [some (.ref (100 + b)), some (.int (nI j))], [.ref (100 + b), .int (nI j)], h)) ok_J1_charAt_3b067 rfl ?_
  refine q_o_xslen ok_J1_charAt_3b067 rfl hb.1 hb.2 ?_
  refine q_callS (M2 := m_J0_checkIndex_df160) (As := [.int (nI j), .int (nI (q_str b).length)]) (rest := []) ok_J1_charAt_3b067 ok_J0_checkIndex_df160 rfl (Or.inl rfl) cs_J0_checkIndex_df160 (ct_scheck (d := 2) (Nat.le_refl _) (nI_pos (by omega)) (nI_lt hj (by omega))) hd (Nat.le_refl _) (Nat.le_refl _) (Nat.le_of_ble_eq_true rfl) (fun x hx => absurd hx List.not_mem_nil) (fun _ _ _ => List.not_mem_nil) (fun _ _ => List.not_mem_nil) rfl (fun v h' hq => ?_) (fun E9 h' hq => by cases hq.1)
  obtain ⟨e1, e2⟩ := hq
  cases e1; subst e2
  refine q_go 2 (c' := (6, [some (.ref (100 + b)), some (.int (nI j))], [.int (nI j), .ref (100 + b)], h')) ok_J1_charAt_3b067 rfl ?_
  refine q_o_xsbyte ok_J1_charAt_3b067 rfl hb.1 hb.2 rfl hj (by omega) ?_
  refine q_go 3 (c' := (10, [some (.ref (100 + b)), some (.int (nI j))], [.int ((((q_str b).getD j 0 &&& 255).toUInt32 % 65536).toInt32)], h')) ok_J1_charAt_3b067 rfl ?_
  rw [hv1]
  exact q_o_iret ok_J1_charAt_3b067 rfl rfl hv2 (Nat.le_refl _) (Nat.le_refl _) ⟨rfl, rfl⟩
theorem ct_schr (hd : 4 ≤ d) (hb : q_isStr b = true ∧ b < 300) (hj : j < (q_str b).length) : q_Ct g m_J0_charAt_5068e d 0 0 [] [.ref b, .int (nI j)] h (fun o h' => o = .inl (some (.int ((q_str b).getD j 0))) ∧ h' = h) := by
  obtain ⟨hL, hv⟩ := q_str_at hb.2
  obtain ⟨hv1, hv2⟩ := hv _ (q_getD_mem hj)
  refine q_Ct_of ok_J0_charAt_5068e (Nat.le_of_ble_eq_true rfl) ?_ _ rfl rfl
  refine q_go 1 (c' := (1, [some (.ref b), some (.int (nI j))], [.ref b], h)) ok_J0_charAt_5068e rfl ?_
  refine q_callX (M2 := m_J0_isLatin1_aae02) (As := []) (rest := []) ok_J0_charAt_5068e ok_J0_isLatin1_aae02 rfl (Or.inl rfl) cv_J0_isLatin1_aae02 (by omega) (q_strO hb.1) rfl (ct_latin (d := 1) (Nat.le_refl _) hb) (by omega) (Nat.le_refl _) (Nat.le_refl _) (Nat.le_of_ble_eq_true rfl) (fun x hx => absurd hx List.not_mem_nil) (fun _ _ _ => List.not_mem_nil) (fun _ _ => List.not_mem_nil) rfl (fun v h' hq => ?_) (fun E9 h' hq => by cases hq.1)
  obtain ⟨e1, e2⟩ := hq
  cases e1; subst e2
  refine q_if 1 (P := (1 : Int32) = 0) (a := (8, [some (.ref b), some (.int (nI j))], [], h')) (b := (3, [some (.ref b), some (.int (nI j))], [], h')) ok_J0_charAt_5068e rfl (fun h => absurd h (by decide)) (fun _ => ?_)
  refine q_go 1 (c' := (4, [some (.ref b), some (.int (nI j))], [.ref b], h')) ok_J0_charAt_5068e rfl ?_
  refine q_o_xvalue ok_J0_charAt_5068e rfl hb.1 hb.2 rfl ?_
  refine q_go 1 (c' := (6, [some (.ref b), some (.int (nI j))], [.int (nI j), .ref (100 + b)], h')) ok_J0_charAt_5068e rfl ?_
  refine q_callS (M2 := m_J1_charAt_3b067) (As := [.ref (100 + b), .int (nI j)]) (rest := []) ok_J0_charAt_5068e ok_J1_charAt_3b067 rfl (Or.inl rfl) cs_J1_charAt_3b067 (ct_lchar (d := 3) (Nat.le_refl _) hb hj) hd (Nat.le_refl _) (Nat.le_refl _) (Nat.le_of_ble_eq_true rfl) (fun x hx => absurd hx List.not_mem_nil) (fun _ _ _ => List.not_mem_nil) (fun _ _ => List.not_mem_nil) rfl (fun v h9 hq => ?_) (fun E9 h' hq => by cases hq.1)
  obtain ⟨e1, e2⟩ := hq
  cases e1; subst e2
  exact q_o_iret ok_J0_charAt_5068e rfl rfl hv2 (Nat.le_refl _) (Nat.le_refl _) ⟨rfl, rfl⟩
theorem q_kslen (hok : q_okM M = true) (he : q_nth M.2.2.2.2.1 pos = some (pc, .invokevirtual idx, ln, a1, a2, w1, w2)) (hw : q_lk M idx m_J0_length_8abf5.1 (q_gw w1 w2)) (hb : q_isStr b = true ∧ b < 300) (hd : 3 ≤ d) (hcat : (r.map fun v => v.category).sum ≤ 8) (hk : k ≤ mc) (hn : n ≤ ms) (hp : pos + 1 = pos')
    (hJ : q_J g M d mc ms h0 mv Q k n (q_kc X I E pos' ls (.int (nI (q_str b).length) :: r) lI lE)) : q_J g M d mc ms h0 mv Q k n (q_kc X I E pos ls (.ref b :: r) lI lE) := by
  subst hp
  refine q_callX (h := q_hp X (q_ws I lI) (q_ws E lE)) (M2 := m_J0_length_8abf5) (As := []) (rest := r) hok ok_J0_length_8abf5 he hw cv_J0_length_8abf5 (by omega) (q_strO hb.1) rfl (ct_slen (d := 2) (Nat.le_refl _) hb) hd hk hn hcat (fun x hx => absurd hx List.not_mem_nil) (fun _ _ _ => List.not_mem_nil) (fun _ _ => List.not_mem_nil) rfl (fun v h' hq => ?_) (fun E9 h' hq => by cases hq.1)
  obtain ⟨e1, e2⟩ := hq
  cases e1; subst e2
  exact hJ
theorem q_kschr (hok : q_okM M = true) (he : q_nth M.2.2.2.2.1 pos = some (pc, .invokevirtual idx, ln, a1, a2, w1, w2)) (hw : q_lk M idx m_J0_charAt_5068e.1 (q_gw w1 w2)) (hb : q_isStr b = true ∧ b < 300) (hix : q_ix i (q_str b).length = some j) (hd : 5 ≤ d) (hcat : (r.map fun v => v.category).sum ≤ 8) (hk : k ≤ mc) (hn : n ≤ ms) (hp : pos + 1 = pos')
    (hJ : q_J g M d mc ms h0 mv Q k n (q_kc X I E pos' ls (.int ((q_str b).getD j 0) :: r) lI lE)) : q_J g M d mc ms h0 mv Q k n (q_kc X I E pos ls (.int i :: .ref b :: r) lI lE) := by
  subst hp
  rw [q_ix_eq hix]
  refine q_callX (h := q_hp X (q_ws I lI) (q_ws E lE)) (M2 := m_J0_charAt_5068e) (As := [.int (nI j)]) (rest := r) hok ok_J0_charAt_5068e he hw cv_J0_charAt_5068e (by omega) (q_strO hb.1) rfl (ct_schr (d := 4) (Nat.le_refl _) hb (q_ix_lt hix)) hd hk hn hcat (fun x hx => absurd hx List.not_mem_nil) (fun _ _ _ => List.not_mem_nil) (fun _ _ => List.not_mem_nil) rfl (fun v h' hq => ?_) (fun E9 h' hq => by cases hq.1)
  obtain ⟨e1, e2⟩ := hq
  cases e1; subst e2
  exact hJ
end QEXT
/-- the told steps, as a table -/
def q_tR {α : Type} (I : Nat → Nat → α) (B : Nat) : Nat → Nat → α := fun j => bif Nat.blt j 20 then I (B + j) else I B
theorem q_tR_at {α : Type} {I : Nat → Nat → α} {B j : Nat} (hj : j < 20) : q_tR I B j = I (B + j) := by unfold q_tR; rw [Nat.blt_eq.mpr hj]; rfl
theorem q_wsT1 {α : Type} {I T : Nat → Nat → α} {l : List (Nat × (Nat → α))} {B j f : Nat} (hj : j < 20) (h : q_nin B l = true) (hT : T = q_tR I B) : q_ws I l (B + j) f = T j f := by
  rw [hT, q_tR_at hj, q_wsT0 hj h]
theorem q_tRe {α : Type} {I T : Nat → Nat → α} {l : List (Nat × (Nat → α))} {B : Nat} (h : q_nin B l = true) (hT : T = q_tR I B) : T = q_tR (q_ws I l) B := by
  rw [hT]
  funext j f
  unfold q_tR
  cases hb : Nat.blt j 20 with
  | true => exact (q_wsT0 (Nat.blt_eq.mp hb) h).symm
  | false => exact (q_wsT0 (j := 0) (by decide) h).symm
/-- what was known of a field is forgotten -/
theorem q_kwkT {g : q_G} {M : q_M} {d mc ms : Nat} {h0 : q_H} {mv : List Nat} {Q : (Option Value ⊕ String) → q_H → Prop} {k n pos r m z : Nat} {ls : List (Option Value)} {st : List Value} {ext : Nat → q_Sh} {rx : Nat → Nat → Option Nat} {L : Nat → Nat → Int64} {I : Nat → Nat → Int32} {E : Nat → Nat → Option Nat} {lI : List (Nat × (Nat → Int32))} {lE : List (Nat × (Nat → Option Nat))}
    (hv1 : ∀ a, Value.ref a ∈ st → a < 492) (hv2 : ∀ i a, q_nth ls i = some (some (.ref a)) → a < 492)
    (hJ : q_J g M d mc ms h0 mv Q k n (q_kc (1, r, m, z, 492, ext, rx, L) I E pos ls st lI lE)) : q_J g M d mc ms h0 mv Q k n (q_kc (0, r, m, z, 492, ext, rx, L) I E pos ls st lI lE) := by
  refine q_hn0_J (fun hn0 => ?_)
  have hsh : ∀ a, a ≠ 473 → q_shX 1 r m ext a = q_shX 0 r m ext a := by
    intro a ha
    unfold q_shX
    rw [q_beqN ha]; rfl
  refine q_vw id (h' := q_hp (1, r, m, z, 492, ext, rx, L) (q_ws I lI) (q_ws E lE)) (ls' := ls) (st' := st) (Nat.le_refl _) (Nat.le_of_ble_eq_true rfl) hn0 (fun a ha => rfl) (fun a h1 h2 => ⟨h1, h2⟩) (fun a b _ _ _ _ h => h) ?_ ?_ ?_ ?_ hv1 hv2 (fun a _ _ => rfl) hJ
  · intro a h1 h2
    by_cases ha : a = 473
    · subst ha
      refine ⟨⟨rfl, rfl⟩, 0, rfl, fun j hj hk => ?_⟩
      have hj : j < 15 := hj
      have hk : q_kd 1 1 j ≠ 9 := hk
      refine ⟨?_, fun _ => ?_⟩
      · match j, hj with
        | 0, _ | 1, _ | 2, _ | 3, _ | 4, _ | 5, _ | 7, _ | 8, _ | 9, _ | 10, _ | 11, _ | 12, _ | 13, _ | 14, _ => rfl
        | 6, _ => exact absurd rfl hk
      · show q_aR (0, r, m, z, 492, ext, rx, L) 473 j = (q_aR (1, r, m, z, 492, ext, rx, L) 473 j).map id
        rw [Option.map_id]; rfl
    · have e := hsh a ha
      unfold q_cmp
      rw [show q_sh (q_hp (1, r, m, z, 492, ext, rx, L) (q_ws I lI) (q_ws E lE)) a = q_shX 0 r m ext a from e]
      generalize hs : q_shX 0 r m ext a = s
      have hs2 : q_sh (q_hp (0, r, m, z, 492, ext, rx, L) (q_ws I lI) (q_ws E lE)) (id a) = s := hs
      obtain ⟨t, c, v⟩ := s
      match t with
      | 0 => exact ⟨⟨rfl, rfl⟩, v, hs2, fun j hj _ => ⟨rfl, fun _ => by rw [Option.map_id]; rfl⟩⟩
      | 1 => exact ⟨hs2, rfl⟩
      | 2 => exact ⟨hs2, rfl⟩
      | 3 => exact ⟨hs2, fun j => by rw [Option.map_id]; rfl⟩
      | t + 4 => exact ⟨hs2, rfl⟩
  · intro hC
    refine ⟨hC.1, hC.2.1, fun a ha => ?_⟩
    show q_shX 1 r m ext a = _
    have ha : 492 ≤ a := ha
    rw [hsh a (by omega)]
    exact hC.2.2 a ha
  · rw [List.map_congr_left (g := id) (fun v _ => by cases v with | none => rfl | some x => cases x <;> rfl), List.map_id]
  · rw [List.map_congr_left (g := id) (fun v _ => by cases v <;> rfl), List.map_id]
