/-! FURTHER RULES, two: numbers, constants, calls (printed by wip/gen43/genY.py) -/
section KDYN3
variable {g : q_G} {xt : List ExceptionTableEntry} {M M2 : q_M} {d mc ms d2 mc2 ms2 : Nat} {h0 : q_H} {mv mv2 : List Nat} {Q Q2 : (Option Value ⊕ String) → q_H → Prop} {k n pos pc ln a1 a2 w1 w2 a ci v idx L j b : Nat} {ls : List (Option Value)} {r st As rest : List Value} {h : q_H}
theorem k_o_ishl {x y : Int32} (hok : q_okB M = true) (he : q_nth M.2.2.2.2.1 pos = some (pc, .ishl, ln, a1, a2, w1, w2)) 
    (hJ : q_K g M xt d mc ms h0 mv Q k n (pos + 1, ls, (.int (x <<< (y &&& 31)) :: r), h)) : q_K g M xt d mc ms h0 mv Q k n (pos, ls, (.int y :: .int x :: r), h) := by
  obtain rfl : ln = 1 := (q_atB hok he).2.2.1 (Nat.succ_ne_zero _)
  exact k_stk (st' := (.int (x <<< (y &&& 31)) :: r)) hok he rfl (fun p e R s m args below meth cd H locs cells slots Qz rls ρ hx hb hd hown hts hl kk => lv_ishl hx hb hd kk) (fun h1 h2 => q_cl1 q_vcl_i (q_tl (q_tl h1))) hJ
theorem k_o_i2d {x : Int32} (hok : q_okB M = true) (he : q_nth M.2.2.2.2.1 pos = some (pc, .i2d, ln, a1, a2, w1, w2)) 
    (hJ : q_K g M xt d mc ms h0 mv Q k n (pos + 1, ls, (.double (FP.i2d x) :: r), h)) : q_K g M xt d mc ms h0 mv Q k n (pos, ls, (.int x :: r), h) := by
  obtain rfl : ln = 1 := (q_atB hok he).2.2.1 (Nat.succ_ne_zero _)
  exact k_stk (st' := (.double (FP.i2d x) :: r)) hok he rfl (fun p e R s m args below meth cd H locs cells slots Qz rls ρ hx hb hd hown hts hl kk => lv_i2d hx hb hd kk) (fun h1 h2 => q_cl1 q_vcl_d (q_tl h1)) hJ
theorem k_o_dconst0 (hok : q_okB M = true) (he : q_nth M.2.2.2.2.1 pos = some (pc, .dconst 0, ln, a1, a2, w1, w2))
    (hJ : q_K g M xt d mc ms h0 mv Q k n (pos + 1, ls, (.double FP.dconst0 :: r), h)) : q_K g M xt d mc ms h0 mv Q k n (pos, ls, r, h) := by
  obtain rfl : ln = 1 := (q_atB hok he).2.2.1 (Nat.succ_ne_zero _)
  exact k_stk (st' := (.double FP.dconst0 :: r)) hok he rfl (fun p e R s m args below meth cd H locs cells slots Qz rls ρ hx hb hd hown hts hl kk => lv_dconst0 hx hb hd kk) (fun h1 h2 => q_cl1 q_vcl_d h1) hJ
theorem k_o_ddiv {x y : UInt64} (hok : q_okB M = true) (he : q_nth M.2.2.2.2.1 pos = some (pc, .ddiv, ln, a1, a2, w1, w2)) (hne : vf_n64 (FP.ddiv x y))
    (hJ : q_K g M xt d mc ms h0 mv Q k n (pos + 1, ls, (.double (FP.ddiv x y) :: r), h)) : q_K g M xt d mc ms h0 mv Q k n (pos, ls, (.double y :: .double x :: r), h) := by
  obtain rfl : ln = 1 := (q_atB hok he).2.2.1 (Nat.succ_ne_zero _)
  exact k_stk (st' := (.double (FP.ddiv x y) :: r)) hok he rfl (fun p e R s m args below meth cd H locs cells slots Qz rls ρ hx hb hd hown hts hl kk => lv_ddiv hx hb hd hne kk) (fun h1 h2 => q_cl1 q_vcl_d (q_tl (q_tl h1))) hJ
theorem k_o_ldcI {x : Int32} (hok : q_okB M = true) (he : q_nth M.2.2.2.2.1 pos = some (pc, .ldc idx, ln, a1, a2, w1, w2)) (hw : q_gw w1 w2 = some (.constant M.1.cls idx x))
    (hJ : q_K g M xt d mc ms h0 mv Q k n (pos + 1, ls, .int x :: r, h)) : q_K g M xt d mc ms h0 mv Q k n (pos, ls, r, h) := by
  obtain rfl : ln = 2 := (q_atB hok he).2.2.1 (Nat.succ_ne_zero _)
  exact k_stk (st' := (.int x :: r)) hok he rfl (fun p e R s m args below meth cd H locs cells slots Qz rls ρ hx hb hd hown hts hl kk => lv_ldc hx hb hown (hts _ (q_gw_in hw rfl)) hd kk) (fun h1 h2 => q_cl1 q_vcl_i h1) hJ
theorem k_o_ldcS {tx : String} {i : Nat} (hok : q_okB M = true) (he : q_nth M.2.2.2.2.1 pos = some (pc, .ldc idx, ln, a1, a2, w1, w2)) (hM : M.1.cls = "HayBarnLaw") (hq : (idx, tx, i) ∈ q_lit)
    (hJ : q_K g M xt d mc ms h0 mv Q k n (pos + 1, ls, .ref i :: r, h)) : q_K g M xt d mc ms h0 mv Q k n (pos, ls, r, h) := by
  obtain rfl : ln = 2 := (q_atB hok he).2.2.1 (Nat.succ_ne_zero _)
  intro p e s m args below meth cd D cA ρ0 ρ A H locs rls en hen hB hS
  cases he.symm.trans hen
  obtain ⟨hd, hnx, -, ho2⟩ := q_atB hok he
  obtain ⟨en', he', hpc⟩ := hnx rfl
  obtain ⟨hx, hb, hr, hml, hts, hown, hlk, hnm, hxt⟩ := id hB
  obtain ⟨hK, hW, hVS, hX, hC, hst, hls, hlh, hag, hag2, hA, hnx0⟩ := id hS
  have hi := q_lit_lt _ hq
  have h9 := hJ p e s m args below meth cd D cA ρ0 ρ A H locs rls en' he' hB ⟨hK, hW, hVS, hX, hC, q_cl1 (fun z hz => by cases hz; exact Nat.lt_of_lt_of_le hi hnx0.1) hst, hls, hlh, hag, hag2, hA, hnx0⟩
  rw [hpc] at h9
  have hT := hX.2.2.2.2.2.2.2.2.2.2.1 _ hq
  dsimp only at hT hi
  rw [← hag2 i hi] at hT
  rw [hM] at hown
  exact va_ldcS hx hb hown hT hd h9
theorem k_o_aretA {b : Nat} {C : FieldType} (hok : q_okB M = true) (he : q_nth M.2.2.2.2.1 pos = some (pc, .areturn, ln, a1, a2, w1, w2)) (hty : M.2.2.2.1 = some (.array C)) (hk : k ≤ mc) (hn : n ≤ ms) (hQ : Q (.inl (some (.ref b))) h) : q_K g M xt d mc ms h0 mv Q k n (pos, ls, [(.ref b)], h) := by
  intro p e s m args below meth cd D cA ρ0 ρ A H locs rls en hen hB hS
  cases he.symm.trans hen
  obtain ⟨hd, -, hln, -⟩ := q_atB hok he
  obtain rfl := hln (Nat.succ_ne_zero _)
  obtain ⟨hx, hb, hr, hml, hts, hown, hlk, hnm, hxt⟩ := id hB
  obtain ⟨hK, hW, hVS, hX, hC, hst, hls, hlh, hag, hag2, hA, hnx0⟩ := id hS
  refine W.widen hk hn (vx_ret ?_)
  exact W.aret hx hb (hr.trans hty) (Or.inr ⟨_, rfl⟩) (Or.inr ⟨_, rfl⟩) (fun t ht hW9 => ⟨(some (.ref b)), h, ρ, rfl, hQ, (fun z hz => by cases hz; exact q_hd hst), hag, hag2, by rw [ht]; exact hW, va_K.moved hW9.alike hK, hC, hnx0.1, hnx0.2, q_F hVS ht⟩) hVS.2.2 hd hlk
theorem k_o_xdig51 {i : Int32} (hok : q_okB M = true) (he : q_nth M.2.2.2.2.1 pos = some (pc, .baload, ln, a1, a2, w1, w2)) (hi : i = nI j) (hj : j < 100) 
    (hJ : q_K g M xt d mc ms h0 mv Q k n (pos + 1, ls, .int (nI (48 + j % 10)) :: r, h)) : q_K g M xt d mc ms h0 mv Q k n (pos, ls, .int i :: .ref 51 :: r, h) := by
  obtain rfl : ln = 1 := (q_atB hok he).2.2.1 (Nat.succ_ne_zero _)
  intro p e s m args below meth cd D cA ρ0 ρ A H locs rls en hen hB hS
  cases he.symm.trans hen
  obtain ⟨hd, hnx, -, ho2⟩ := q_atB hok he
  obtain ⟨en', he', hpc⟩ := hnx rfl
  obtain ⟨hx, hb, hr, hml, hts, hown, hlk, hnm, hxt⟩ := id hB
  obtain ⟨hK, hW, hVS, hX, hC, hst, hls, hlh, hag, hag2, hA, hnx0⟩ := id hS
  have h9 := hJ p e s m args below meth cd D cA ρ0 ρ A H locs rls en' he' hB ⟨hK, hW, hVS, hX, hC, q_cl1 q_vcl_i (q_tl (q_tl hst)), hls, hlh, hag, hag2, hA, hnx0⟩
  rw [hpc] at h9
  subst hi
  have hin : vp_in (nI j) 100 := vp_in_nI hj (by omega)
  have hT := hX.2.2.2.2.2.2.1.1
  rw [← hag2 51 (by decide)] at hT
  exact va_tb hx hb hT hVS hin (by rw [nI_clamp (by omega)]; rfl) hd h9
theorem k_o_xdig53 {i : Int32} (hok : q_okB M = true) (he : q_nth M.2.2.2.2.1 pos = some (pc, .baload, ln, a1, a2, w1, w2)) (hi : i = nI j) (hj : j < 100) 
    (hJ : q_K g M xt d mc ms h0 mv Q k n (pos + 1, ls, .int (nI (48 + j / 10)) :: r, h)) : q_K g M xt d mc ms h0 mv Q k n (pos, ls, .int i :: .ref 53 :: r, h) := by
  obtain rfl : ln = 1 := (q_atB hok he).2.2.1 (Nat.succ_ne_zero _)
  intro p e s m args below meth cd D cA ρ0 ρ A H locs rls en hen hB hS
  cases he.symm.trans hen
  obtain ⟨hd, hnx, -, ho2⟩ := q_atB hok he
  obtain ⟨en', he', hpc⟩ := hnx rfl
  obtain ⟨hx, hb, hr, hml, hts, hown, hlk, hnm, hxt⟩ := id hB
  obtain ⟨hK, hW, hVS, hX, hC, hst, hls, hlh, hag, hag2, hA, hnx0⟩ := id hS
  have h9 := hJ p e s m args below meth cd D cA ρ0 ρ A H locs rls en' he' hB ⟨hK, hW, hVS, hX, hC, q_cl1 q_vcl_i (q_tl (q_tl hst)), hls, hlh, hag, hag2, hA, hnx0⟩
  rw [hpc] at h9
  subst hi
  have hin : vp_in (nI j) 100 := vp_in_nI hj (by omega)
  have hT := hX.2.2.2.2.2.2.1.2
  rw [← hag2 53 (by decide)] at hT
  exact va_tb hx hb hT hVS hin (by rw [nI_clamp (by omega)]; rfl) hd h9
theorem k_callS (hok : q_okB M = true) (hok2 : q_okM M2 = true) (he : q_nth M.2.2.2.2.1 pos = some (pc, .invokestatic idx, ln, a1, a2, w1, w2)) (hw : q_lk M idx M2.1 (q_gw w1 w2)) (hcv : q_csP M2 As.length)
    (hCt : q_Ct g M2 d2 mc2 ms2 mv2 As h Q2) (hd : d2 + 1 ≤ d) (hlc : 59 + 64 * d2 ≤ q_lc d) (hk : k + mc2 ≤ mc) (hn : n + ms2 ≤ ms) (hcat : (rest.map fun v => v.category).sum ≤ 8)
    (hmv : ∀ x ∈ mv2, x ∈ mv) (hm1 : ∀ i a, q_nth ls i = some (some (.ref a)) → a ∉ mv2) (hm2 : ∀ a, Value.ref a ∈ rest → a ∉ mv2) (hst' : st = As.reverse ++ rest)
    (hR : ∀ v h', Q2 (.inl v) h' → q_K g M xt d mc ms h0 mv Q (k + mc2) (n + ms2) (pos + 1, ls, v.toList ++ rest, h')) (hX2 : ∀ E h', Q2 (.inr E) h' → q_KX g M xt d mc ms h0 mv Q (k + mc2) (n + ms2) pc ls E h') : q_K g M xt d mc ms h0 mv Q k n (pos, ls, st, h) := by
  obtain rfl : ln = 3 := (q_atB hok he).2.2.1 (Nat.succ_ne_zero _)
  intro p e s m args below meth cd D cA ρ0 ρ A H locs rls en hen hB hS
  cases he.symm.trans hen
  obtain ⟨hdg, hnx, -, -⟩ := q_atB hok he
  obtain ⟨en', he', hpc⟩ := hnx rfl
  obtain ⟨hx, hb, hr0, hml, hts, hown, hlk, hnm, hxt⟩ := id hB
  obtain ⟨hK, hW, hVS, hX, hC, hst, hls, hlh, hag, hag2, hA, hn1, hn2⟩ := id hS
  obtain ⟨c1, c3, c4, c5⟩ := hcv
  obtain ⟨f1, f2, f3, f4, f5, f6, f7⟩ := k_CB (p := p) (s := s) (args := args) (d2 := d2) (mc2 := mc2) (ms2 := ms2) (d := d) (mc := mc) (ms := ms) hok2 hts hd hlc
  have hAs : ∀ x ∈ As, q_vcl h x := fun x hx => hst x (by show _ ∈ st; rw [hst']; simp [hx])
  have hpre : PreS s H (q_Pc g D cA ρ h H.size As) (As.map (q_vz ρ)) := ⟨q_Pc_blind, fun U hU hWm => q_Pc_at hS hAs U hU hWm⟩
  have hstk : (F0 m pc rls (st.map (q_vz ρ))).stack = (As.map (q_vz ρ)).reverse ++ rest.map (q_vz ρ) := by
    show st.map (q_vz ρ) = _
    rw [hst', List.map_append, List.map_reverse]
  have hM := hCt D cA ρ H.size
  refine k_run_go (aa := (As.map (q_vz ρ)).toArray) hB hS he' hpc (fun x hx => by rw [hst']; simp [hx]) hmv hm1 hm2 ?_ hR hX2
  rcases hw with hw | ⟨host, hw⟩
  · exact vx_runS (As := As.map (q_vz ρ)) (rest := rest.map (q_vz ρ)) (n := As.length) (Ts := q_tb) ⟨hx, hb, hml, hown, hts⟩ hM ⟨⟨f1, f2, f3, f4, f5, f6, f7, hts _ c3, c4, q_par c5, hts _ (q_gw_in hw rfl)⟩, hts _ c1⟩ hpre rfl (List.length_map _) hlh.1 hstk (lv_room (q_cat8 hcat)) hdg ⟨hk, hn⟩
  · exact vx_runSN (As := As.map (q_vz ρ)) (rest := rest.map (q_vz ρ)) (n := As.length) (Ts := q_tb) (host := host) ⟨hx, hb, hml, hown, hts⟩ hM ⟨⟨⟨f1, f2, f3, f4, f5, f6⟩, f7, hts _ c3, c4, q_par c5, q_Xn hX (q_gw_in2 hw) rfl rfl⟩, hts _ c1, trivial⟩ hpre rfl (List.length_map _) hlh.1 hstk (lv_room (q_cat8 hcat)) hdg ⟨hk, hn⟩
theorem k_callX {C : String} (hok : q_okB M = true) (hok2 : q_okM M2 = true) (he : q_nth M.2.2.2.2.1 pos = some (pc, .invokevirtual idx, ln, a1, a2, w1, w2)) (hw : q_lk M idx M2.1 (q_gw w1 w2)) (hcv : q_cvP M2 As.length)
    (hb4 : b < 400) (hO : ∀ ρ A U H, q_Ext g ρ A U H → va_O C (ρ b) A U H) (hC2 : C = M2.1.cls) (hCt : q_Ct g M2 d2 mc2 ms2 mv2 (.ref b :: As) h Q2) (hd : d2 + 1 ≤ d) (hlc : 59 + 64 * d2 ≤ q_lc d) (hk : k + mc2 ≤ mc) (hn : n + ms2 ≤ ms) (hcat : (rest.map fun v => v.category).sum ≤ 8)
    (hmv : ∀ x ∈ mv2, x ∈ mv) (hm1 : ∀ i a, q_nth ls i = some (some (.ref a)) → a ∉ mv2) (hm2 : ∀ a, Value.ref a ∈ rest → a ∉ mv2) (hst' : st = As.reverse ++ .ref b :: rest)
    (hR : ∀ v h', Q2 (.inl v) h' → q_K g M xt d mc ms h0 mv Q (k + mc2) (n + ms2) (pos + 1, ls, v.toList ++ rest, h')) (hX2 : ∀ E h', Q2 (.inr E) h' → q_KX g M xt d mc ms h0 mv Q (k + mc2) (n + ms2) pc ls E h') : q_K g M xt d mc ms h0 mv Q k n (pos, ls, st, h) := by
  obtain rfl : ln = 3 := (q_atB hok he).2.2.1 (Nat.succ_ne_zero _)
  intro p e s m args below meth cd D cA ρ0 ρ A H locs rls en hen hB hS
  cases he.symm.trans hen
  obtain ⟨hdg, hnx, -, -⟩ := q_atB hok he
  obtain ⟨en', he', hpc⟩ := hnx rfl
  obtain ⟨hx, hb, hr0, hml, hts, hown, hlk, hnm, hxt⟩ := id hB
  obtain ⟨hK, hW, hVS, hX, hC, hst, hls, hlh, hag, hag2, hA, hn1, hn2⟩ := id hS
  obtain ⟨c1, c2, c3, c4, c5⟩ := hcv
  obtain ⟨f1, f2, f3, f4, f5, f6, f7⟩ := k_CB (p := p) (s := s) (args := args) (d2 := d2) (mc2 := mc2) (ms2 := ms2) (d := d) (mc := mc) (ms := ms) hok2 hts hd hlc
  have hbn : b < q_nx h := Nat.lt_of_lt_of_le hb4 hn1
  have hAs : ∀ x ∈ Value.ref b :: As, q_vcl h x := by
    intro x hx
    rcases List.mem_cons.mp hx with rfl | hx
    · exact fun a ha => by cases ha; exact hbn
    · exact hst x (by show _ ∈ st; rw [hst']; simp [hx])
  have hrecv : ∃ cell : Cell, H[ρ b]? = some cell ∧ cell.vm.isStatics = false ∧ s.vm.findClass C = some cell.cls := by
    obtain ⟨cell, g1, g2, g3, g4⟩ := hO _ _ _ _ hX
    refine ⟨cell, ?_, g2, g3⟩
    rw [hag2 b hb4, hVS.2.1 _ (Array.getElem?_eq_some_iff.mp g1).1 g4]
    exact g1
  have hpre : PreV s H C (ρ b) (q_Pc g D cA ρ h H.size (.ref b :: As)) (As.map (q_vz ρ)) := ⟨q_Pc_blind, hrecv, fun U hU hWm => q_Pc_at hS hAs U hU hWm⟩
  subst hC2
  have hstk : (F0 m pc rls (st.map (q_vz ρ))).stack = (As.map (q_vz ρ)).reverse ++ .ref (ρ b) :: rest.map (q_vz ρ) := by
    show st.map (q_vz ρ) = _
    rw [hst', List.map_append, List.map_cons, List.map_reverse]; rfl
  have hM := hCt D cA ρ H.size
  refine k_run_go (aa := (Value.ref (ρ b) :: As.map (q_vz ρ)).toArray) hB hS he' hpc (fun x hx => by rw [hst']; simp [hx]) hmv hm1 hm2 ?_ hR hX2
  rcases hw with hw | ⟨host, hw⟩
  · exact vx_runV (As := As.map (q_vz ρ)) (rest := rest.map (q_vz ρ)) (n := As.length) (Ts := q_tb) ⟨hx, hb, hml, hown, hts⟩ hM ⟨⟨f1, f2, f3, f4, f5, f6, f7, hts _ c3, c4, q_par c5, hts _ (q_gw_in hw rfl)⟩, hts _ c1, hts _ c2⟩ hpre rfl (List.length_map _) hlh.1 hstk (lv_room (q_cat8 hcat)) hdg ⟨hk, hn⟩
  · exact vx_runVN (As := As.map (q_vz ρ)) (rest := rest.map (q_vz ρ)) (n := As.length) (Ts := q_tb) (host := host) ⟨hx, hb, hml, hown, hts⟩ hM ⟨⟨⟨f1, f2, f3, f4, f5, f6⟩, f7, hts _ c3, c4, q_par c5, q_Xn hX (q_gw_in2 hw) rfl rfl⟩, hts _ c1, hts _ c2⟩ hpre rfl (List.length_map _) hlh.1 hstk (lv_room (q_cat8 hcat)) hdg ⟨hk, hn⟩
/-- what a call of a builder's method asks: the name in the link, the method itself -/
def q_cuP (x : MethodName) (M2 : q_M) (na : Nat) : Prop := (x.cls = "java/lang/AbstractStringBuilder" ∧ Jvm.Cond.instanceMethod x ∈ q_tb ∧ ∃ b0 m0 r0, Jvm.Cond.code x b0 m0 r0 ∈ q_tb) ∧ Jvm.Cond.sameMethod x.cls x.cls x.name x.desc ∈ q_tb ∧ Jvm.Cond.instanceMethod M2.1 ∈ q_tb ∧ Jvm.Cond.initialized M2.1.cls ∈ q_tb ∧ (Jvm.Cond.selects "java/lang/StringBuilder" x M2.1 ∈ q_tb ∨ (x = M2.1 ∧ Jvm.Cond.privateMethod x ∈ lw_tbl)) ∧ (parseMethodDescriptor x.desc).map (fun d => d.parameters.length) = some na
def q_csuP (M2 : q_M) (na : Nat) : Prop := Jvm.Cond.sameMethod M2.1.cls M2.1.cls M2.1.name M2.1.desc ∈ q_tb ∧ Jvm.Cond.superclass "java/lang/StringBuilder" M2.1.cls ∈ q_tb ∧ Jvm.Cond.instanceMethod M2.1 ∈ q_tb ∧ Jvm.Cond.initialized M2.1.cls ∈ q_tb ∧ M2.1.name ≠ "<init>" ∧ (parseMethodDescriptor M2.1.desc).map (fun d => d.parameters.length) = some na
theorem q_sbI : Jvm.Cond.instantiable "java/lang/StringBuilder" 4 ∈ q_tb := List.mem_filter.mpr ⟨by decide +kernel, rfl⟩
theorem q_sbL : Jvm.Cond.selects "java/lang/StringBuilder" ⟨"java/lang/AbstractStringBuilder", "isLatin1", "()Z"⟩ ⟨"java/lang/AbstractStringBuilder", "isLatin1", "()Z"⟩ ∈ q_tb := List.mem_filter.mpr ⟨by decide +kernel, rfl⟩
/-- a builder selects the private methods of its superclass -/
theorem q_sbPriv {y : MethodName} {s : State} {args : Array Value} (hts : ∀ w ∈ q_tb, w.before args s = true) (hy : y.cls = "java/lang/AbstractStringBuilder") (hpriv : (Jvm.Cond.privateMethod y).before args s = true) (hinst : Jvm.Cond.instanceMethod y ∈ q_tb) :
    (Jvm.Cond.selects "java/lang/StringBuilder" y y).before args s = true := by
  obtain ⟨c, k, hc, hk, -, -, -, -⟩ := Cond.instantiable_spec (hts _ q_sbI)
  obtain ⟨mk, methM, hnamed, hmethM, -, -⟩ := Cond.instanceMethod_spec (hts _ hinst)
  obtain ⟨c2, r2, m2, s1, s2, s3, s4, kP, hkP, hkPi⟩ := Cond.selects_spec (hts _ q_sbL)
  have hcls : mk.cls = m2.cls := by
    have e1 := findClass_of_methodNamed hnamed
    have e2 := findClass_of_methodNamed s3
    rw [hy] at e1
    exact Option.some.inj (e1.symm.trans e2)
  have hfound : s.methodFound? y.cls y.name y.desc = some mk := State.methodFound?_of_named hnamed (by rw [hy]; exact ⟨by decide, by decide⟩)
  have hsel : selectMethod {} s.vm c mk = .method mk := selectMethod_private hmethM (Cond.privateMethod_at hpriv mk methM hnamed hmethM)
  simp only [Cond.before, Cond.holds, Cond.value, hc, hfound, hnamed, hsel, hcls, hkP]
  simp; exact hkPi
theorem k_callU {x : MethodName} (hok : q_okB M = true) (hok2 : q_okM M2 = true) (he : q_nth M.2.2.2.2.1 pos = some (pc, .invokevirtual idx, ln, a1, a2, w1, w2)) (hw : q_gw w1 w2 = some (.methodLink M.1.cls idx x)) (hcv : q_cuP x M2 As.length)
    (hb4 : 400 ≤ b) (hbs : q_sh h b = (0, 14, 0)) (hCt : q_Ct g M2 d2 mc2 ms2 mv2 (.ref b :: As) h Q2) (hd : d2 + 1 ≤ d) (hlc : 59 + 64 * d2 ≤ q_lc d) (hk : k + mc2 ≤ mc) (hn : n + ms2 ≤ ms) (hcat : (rest.map fun v => v.category).sum ≤ 8)
    (hmv : ∀ x ∈ mv2, x ∈ mv) (hm1 : ∀ i a, q_nth ls i = some (some (.ref a)) → a ∉ mv2) (hm2 : ∀ a, Value.ref a ∈ rest → a ∉ mv2) (hst' : st = As.reverse ++ .ref b :: rest)
    (hR : ∀ v h', Q2 (.inl v) h' → q_K g M xt d mc ms h0 mv Q (k + mc2) (n + ms2) (pos + 1, ls, v.toList ++ rest, h')) (hX2 : ∀ E h', Q2 (.inr E) h' → q_KX g M xt d mc ms h0 mv Q (k + mc2) (n + ms2) pc ls E h') : q_K g M xt d mc ms h0 mv Q k n (pos, ls, st, h) := by
  obtain rfl : ln = 3 := (q_atB hok he).2.2.1 (Nat.succ_ne_zero _)
  intro p e s m args below meth cd D cA ρ0 ρ A H locs rls en hen hB hS
  cases he.symm.trans hen
  obtain ⟨hdg, hnx, -, -⟩ := q_atB hok he
  obtain ⟨en', he', hpc⟩ := hnx rfl
  obtain ⟨hx, hb, hr0, hml, hts, hown, hlk, hnm, hxt⟩ := id hB
  obtain ⟨hK, hW, hVS, hX, hC, hst, hls, hlh, hag, hag2, hA, hn1, hn2⟩ := id hS
  obtain ⟨⟨z1, z2, b0, m0, r0, z3⟩, c1, c2, c3, c4, c5⟩ := hcv
  obtain ⟨f1, f2, f3, f4, f5, f6, f7⟩ := k_CB (p := p) (s := s) (args := args) (d2 := d2) (mc2 := mc2) (ms2 := ms2) (d := d) (mc := mc) (ms := ms) hok2 hts hd hlc
  have hbn : b < q_nx h := hst (.ref b) (by show _ ∈ st; rw [hst']; simp) b rfl
  have hAs : ∀ x ∈ Value.ref b :: As, q_vcl h x := by
    intro x hx
    rcases List.mem_cons.mp hx with rfl | hx
    · exact fun a ha => by cases ha; exact hbn
    · exact hst x (by show _ ∈ st; rw [hst']; simp [hx])
  obtain ⟨ws, e9, g1, g2, hP, hD, hat, hcr⟩ := q_Wd_at hW hb4 hbn
  rw [hbs] at hcr
  obtain ⟨fs, hfs, -, -⟩ := hcr
  rw [hfs] at hat
  have hrecv := va_recv hK hP (show vwCl[14]? = some (RJ4, TJ4, 4) from rfl) hat
  have hpre : PreV s H RJ4 (ρ b) (q_Pc g D cA ρ h H.size (.ref b :: As)) (As.map (q_vz ρ)) := ⟨q_Pc_blind, hrecv, fun U hU hWm => q_Pc_at hS hAs U hU hWm⟩
  have hstk : (F0 m pc rls (st.map (q_vz ρ))).stack = (As.map (q_vz ρ)).reverse ++ .ref (ρ b) :: rest.map (q_vz ρ) := by
    show st.map (q_vz ρ) = _
    rw [hst', List.map_append, List.map_cons, List.map_reverse]; rfl
  have hM := hCt D cA ρ H.size
  refine k_run_go (aa := (Value.ref (ρ b) :: As.map (q_vz ρ)).toArray) hB hS he' hpc (fun x hx => by rw [hst']; simp [hx]) hmv hm1 hm2 ?_ hR hX2
  have hsel : (Jvm.Cond.selects "java/lang/StringBuilder" x M2.1).before args s = true := by
    rcases c4 with c4 | ⟨e, c4⟩
    · exact hts _ c4
    · subst e; exact q_sbPriv hts z1 (q_Xn hX c4 rfl rfl) c2
  exact vx_runU (As := As.map (q_vz ρ)) (rest := rest.map (q_vz ρ)) (n := As.length) (Ts := q_tb) (C := RJ4) (owner := x.cls) (x := x) ⟨hx, hb, hml, hown, hts⟩ hM ⟨⟨f1, f2, f3, f4, f5, f6⟩, f7, hts _ c3, by rw [z1]; exact ⟨by decide, by decide⟩, q_par c5, hts _ (q_gw_in hw rfl), hts _ c1, va_Decl.of (hts _ z2) (hts _ z3), hsel, hts _ c2⟩ hpre rfl (List.length_map _) hlh.1 hstk (lv_room (q_cat8 hcat)) hdg ⟨hk, hn⟩
theorem k_callSU (hok : q_okB M = true) (hok2 : q_okM M2 = true) (he : q_nth M.2.2.2.2.1 pos = some (pc, .invokespecial idx, ln, a1, a2, w1, w2)) (hw : q_gw w1 w2 = some (.methodLink M.1.cls idx M2.1)) (hcv : q_csuP M2 As.length) (hownN : M.1.cls = "java/lang/StringBuilder")
    (hb4 : 400 ≤ b) (hbs : q_sh h b = (0, 14, 0)) (hCt : q_Ct g M2 d2 mc2 ms2 mv2 (.ref b :: As) h Q2) (hd : d2 + 1 ≤ d) (hlc : 59 + 64 * d2 ≤ q_lc d) (hk : k + mc2 ≤ mc) (hn : n + ms2 ≤ ms) (hcat : (rest.map fun v => v.category).sum ≤ 8)
    (hmv : ∀ x ∈ mv2, x ∈ mv) (hm1 : ∀ i a, q_nth ls i = some (some (.ref a)) → a ∉ mv2) (hm2 : ∀ a, Value.ref a ∈ rest → a ∉ mv2) (hst' : st = As.reverse ++ .ref b :: rest)
    (hR : ∀ v h', Q2 (.inl v) h' → q_K g M xt d mc ms h0 mv Q (k + mc2) (n + ms2) (pos + 1, ls, v.toList ++ rest, h')) (hX2 : ∀ E h', Q2 (.inr E) h' → q_KX g M xt d mc ms h0 mv Q (k + mc2) (n + ms2) pc ls E h') : q_K g M xt d mc ms h0 mv Q k n (pos, ls, st, h) := by
  obtain rfl : ln = 3 := (q_atB hok he).2.2.1 (Nat.succ_ne_zero _)
  intro p e s m args below meth cd D cA ρ0 ρ A H locs rls en hen hB hS
  cases he.symm.trans hen
  obtain ⟨hdg, hnx, -, -⟩ := q_atB hok he
  obtain ⟨en', he', hpc⟩ := hnx rfl
  obtain ⟨hx, hb, hr0, hml, hts, hown, hlk, hnm, hxt⟩ := id hB
  obtain ⟨hK, hW, hVS, hX, hC, hst, hls, hlh, hag, hag2, hA, hn1, hn2⟩ := id hS
  obtain ⟨c1, c2, c3, c4, c6, c5⟩ := hcv
  obtain ⟨f1, f2, f3, f4, f5, f6, f7⟩ := k_CB (p := p) (s := s) (args := args) (d2 := d2) (mc2 := mc2) (ms2 := ms2) (d := d) (mc := mc) (ms := ms) hok2 hts hd hlc
  have hbn : b < q_nx h := hst (.ref b) (by show _ ∈ st; rw [hst']; simp) b rfl
  have hAs : ∀ x ∈ Value.ref b :: As, q_vcl h x := by
    intro x hx
    rcases List.mem_cons.mp hx with rfl | hx
    · exact fun a ha => by cases ha; exact hbn
    · exact hst x (by show _ ∈ st; rw [hst']; simp [hx])
  obtain ⟨ws, e9, g1, g2, hP, hD, hat, hcr⟩ := q_Wd_at hW hb4 hbn
  rw [hbs] at hcr
  obtain ⟨fs, hfs, -, -⟩ := hcr
  rw [hfs] at hat
  have hrecv := va_recv hK hP (show vwCl[14]? = some (RJ4, TJ4, 4) from rfl) hat
  have hpre : PreV s H RJ4 (ρ b) (q_Pc g D cA ρ h H.size (.ref b :: As)) (As.map (q_vz ρ)) := ⟨q_Pc_blind, hrecv, fun U hU hWm => q_Pc_at hS hAs U hU hWm⟩
  have hstk : (F0 m pc rls (st.map (q_vz ρ))).stack = (As.map (q_vz ρ)).reverse ++ .ref (ρ b) :: rest.map (q_vz ρ) := by
    show st.map (q_vz ρ) = _
    rw [hst', List.map_append, List.map_cons, List.map_reverse]; rfl
  have hM := hCt D cA ρ H.size
  refine k_run_go (aa := (Value.ref (ρ b) :: As.map (q_vz ρ)).toArray) hB hS he' hpc (fun x hx => by rw [hst']; simp [hx]) hmv hm1 hm2 ?_ hR hX2
  have hat9 : ClassAt s RJ4 (D.1 14) := (hK.1 14 (RJ4, TJ4, 4) rfl).2
  exact vx_runSU (As := As.map (q_vz ρ)) (rest := rest.map (q_vz ρ)) (n := As.length) (Ts := q_tb) hat9 ⟨hx, hb, hml, hown, hts⟩ hM ⟨⟨f1, f2, f3, f4, f5, f6⟩, hts _ (q_gw_in hw rfl), hts _ c1, by rw [hownN]; exact hts _ c2, hts _ c3, hts _ c4, f7, c6, q_par c5⟩ hpre rfl (List.length_map _) hlh.1 hstk (lv_room (q_cat8 hcat)) hdg ⟨hk, hn⟩
theorem k_o_alenRow (hok : q_okB M = true) (he : q_nth M.2.2.2.2.1 pos = some (pc, .arraylength, ln, a1, a2, w1, w2)) (ha : 400 ≤ a) (hsh : q_sh h a = (3, 7, L))
    (hJ : q_K g M xt d mc ms h0 mv Q k n (pos + 1, ls, .int (nI L) :: r, h)) : q_K g M xt d mc ms h0 mv Q k n (pos, ls, .ref a :: r, h) := by
  obtain rfl : ln = 1 := (q_atB hok he).2.2.1 (Nat.succ_ne_zero _)
  intro p e s m args below meth cd D cA ρ0 ρ A H locs rls en hen hB hS
  cases he.symm.trans hen
  obtain ⟨hd, hnx, -, ho2⟩ := q_atB hok he
  obtain ⟨en', he', hpc⟩ := hnx rfl
  obtain ⟨hx, hb, hr, hml, hts, hown, hlk, hnm, hxt⟩ := id hB
  obtain ⟨hK, hW, hVS, hX, hC, hst, hls, hlh, hag, hag2, hA, hnx0⟩ := id hS
  have ha2 : a < q_nx h := q_lt hC hsh (by decide)
  have h9 := hJ p e s m args below meth cd D cA ρ0 ρ A H locs rls en' he' hB ⟨hK, hW, hVS, hX, hC, q_cl1 q_vcl_i (q_tl hst), hls, hlh, hag, hag2, hA, hnx0⟩
  rw [hpc] at h9
  obtain ⟨ws, e9, e1, e2, hP, hD, hat, hcr⟩ := q_Wd_at hW ha ha2
  rw [hsh] at hcr
  have hcr : e9 = _ := hcr
  rw [hcr] at hat
  exact va_alen hx hb hK hP (a - 400) 7 hat rfl rfl hd h9
theorem k_o_aaldRow {i : Int32} (hok : q_okB M = true) (he : q_nth M.2.2.2.2.1 pos = some (pc, .aaload, ln, a1, a2, w1, w2)) (ha : 400 ≤ a) (hsh : q_sh h a = (3, 7, L)) (hi : i = nI j) (hj : j < L) (hL : L < 2147483648)
    (hJ : q_K g M xt d mc ms h0 mv Q k n (pos + 1, ls, (va_rf (q_R h a j)) :: r, h)) : q_K g M xt d mc ms h0 mv Q k n (pos, ls, .int i :: .ref a :: r, h) := by
  obtain rfl : ln = 1 := (q_atB hok he).2.2.1 (Nat.succ_ne_zero _)
  intro p e s m args below meth cd D cA ρ0 ρ A H locs rls en hen hB hS
  cases he.symm.trans hen
  obtain ⟨hd, hnx, -, ho2⟩ := q_atB hok he
  obtain ⟨en', he', hpc⟩ := hnx rfl
  obtain ⟨hx, hb, hr, hml, hts, hown, hlk, hnm, hxt⟩ := id hB
  obtain ⟨hK, hW, hVS, hX, hC, hst, hls, hlh, hag, hag2, hA, hnx0⟩ := id hS
  have ha2 : a < q_nx h := q_lt hC hsh (by decide)
  have h9 := hJ p e s m args below meth cd D cA ρ0 ρ A H locs rls en' he' hB ⟨hK, hW, hVS, hX, hC, q_cl1 (by cases hq : q_R h a j with | none => exact q_vcl_n | some b => intro z hz; cases hz; exact hC.1 _ _ _ hq) (q_tl (q_tl hst)), hls, hlh, hag, hag2, hA, hnx0⟩
  rw [hpc] at h9
  obtain ⟨ws, e9, e1, e2, hP, hD, hat, hcr⟩ := q_Wd_at hW ha ha2
  rw [hsh] at hcr
  have hcr : e9 = _ := hcr
  rw [hcr] at hat
  subst hi
  have hin : vp_in (nI j) L := vp_in_nI hj hL
  have hlt : (nI j).toNatClampNeg < L := by rw [nI_clamp (by omega)]; exact hj
  refine W.aald (v := va_rf ((q_R h a j).map ρ)) (ty := .array .int) hx hb (hP (a - 400) _ hat) ((hK.2 7 (cA 7, .array .int) rfl).1 L (fun j => va_rf ((q_R h a j).map ρ))) rfl (fun q => by cases q) (by show ¬ (nI j < 0 ∨ (arrV _ _ _).slots.size ≤ _); rw [arrV_size]; exact hin) (by show (arrV _ _ _).slots[_]? = _; rw [arrV_read _ _ hlt, nI_clamp (by omega)]) rfl rfl hd ?_
  rw [q_rf_vz]; exact h9
theorem k_o_newqRow {i : Int32} (hok : q_okB M = true) (he : q_nth M.2.2.2.2.1 pos = some (pc, .anewarray idx, ln, a1, a2, w1, w2)) (hw : q_gw w1 w2 = some (.classLink M.1.cls idx "[I")) (hi : i = nI L) (hL : L < 65536) (hk : k + 1 ≤ mc) (hn : n + L ≤ ms)
    (hJ : q_K g M xt d mc ms h0 mv Q (k + 1) (n + L) (pos + 1, ls, .ref (q_nx h) :: r, q_new h (3, 7, L))) : q_K g M xt d mc ms h0 mv Q k n (pos, ls, .int i :: r, h) := by
  obtain rfl : ln = 3 := (q_atB hok he).2.2.1 (Nat.succ_ne_zero _)
  intro p e s m args below meth cd D cA ρ0 ρ A H locs rls en hen hB hS
  cases he.symm.trans hen
  obtain ⟨hd, hnx, -, ho2⟩ := q_atB hok he
  obtain ⟨en', he', hpc⟩ := hnx rfl
  obtain ⟨hx, hb, hr, hml, hts, hown, hlk, hnm, hxt⟩ := id hB
  obtain ⟨hK, hW, hVS, hX, hC, hst, hls, hlh, hag, hag2, hA, hnx0⟩ := id hS
  obtain ⟨ws, f1, f2, hP, hD⟩ := id hW
  subst hi
  have hX9 := id hX
  obtain ⟨-, -, -, -, -, -, -, -, -, -, -, -, -, -, -, -, ⟨hO1, hO3, hO4, hO5⟩, hO2, -⟩ := hX9
  refine W.anewA (t := .int) hx hb hown (hts _ (q_gw_in hw rfl)) hO5 (g := F0 m pc rls (.int (nI L) :: r.map (q_vz ρ))) rfl hd rfl (nI_pos (by omega)) (by rw [nI_clamp (by omega)]; omega) hk (by rw [nI_clamp (by omega)]; exact hn) (fun c9 k9 comp f3 f4 f5 f6 => ?_)
  have hc9 : c9 = cA 7 := Option.some.inj (f3.symm.trans (hK.2 7 (cA 7, .array .int) rfl).2)
  subst hc9
  rw [nI_clamp (by omega)]
  generalize hH1 : H.push ({ cls := cA 7, slots := Array.replicate L .null, vm := .none } : Cell) = H1
  have z1 : H1.size = H.size + 1 := by rw [← hH1, Array.size_push]
  have e1 : H1[H.size]? = some (arrV (cA 7) L (fun _ => .null)) := by rw [← hH1, Array.getElem?_push_size, ← arrV_new]
  have o1 : ∀ q : Nat, q < H.size → H1[q]? = H[q]? := fun q hq => by rw [← hH1, Array.getElem?_push, if_neg (Nat.ne_of_lt hq)]
  have hkk : ∀ (k : Nat) (x : Nat × va_E), ws[k]? = some x → H1[x.1]? = H[x.1]? := fun k x hx => o1 x.1 ((hP k x hx).lt)
  have P1 : va_P D vwCl (ws ++ [(H.size, .inl (cA 7, L, .inr (.inr (.inr (.inr (fun _ => none))))))]) H1 := (hP.kept hkk).app (fun k x hx => by
    have hz : k < 1 := (List.getElem?_eq_some_iff.mp hx).1
    rw [show k = 0 by omega] at hx
    cases hx
    show H1[H.size]? = some (vp_cell _ _)
    rw [vp_cell_q]
    exact e1)
  have D1 : va_D A (ws ++ [(H.size, .inl (cA 7, L, .inr (.inr (.inr (.inr (fun _ => none))))))]) := hD.push hP rfl (hA _ hVS.1)
  have S1 : va_S A s.heap H1 locs := ⟨Nat.le_trans hVS.1 (by omega), fun x h1 h2 => (o1 x (Nat.lt_of_lt_of_le h1 hVS.1)).trans (hVS.2.1 x h1 h2), hVS.2.2⟩
  have h9 := hJ p e s m args below meth cd D cA ρ0 (q_ur ρ (q_nx h) H.size) A H1 locs rls en' he' hB (q_Sit_new (r := r) hS f1 f2 (by show _ = Sum.inl _; simp only [show q_R (q_new h (3, 7, L)) (q_nx h) = (fun _ => none) from q_ur_s _ _ _]; rfl) P1 D1 S1 (q_tl hst))
  rw [hpc, List.map_cons, q_map_new (q_tl hst)] at h9
  rw [show q_vz (q_ur ρ (q_nx h) H.size) (.ref (q_nx h)) = .ref H.size from congrArg Value.ref (q_ur_s _ _ _)] at h9
  exact h9
theorem k_o_aastRow {i : Int32} {b L2 : Nat} (hok : q_okB M = true) (he : q_nth M.2.2.2.2.1 pos = some (pc, .aastore, ln, a1, a2, w1, w2)) (ha : 400 ≤ a) (hsh : q_sh h a = (3, 7, L)) (hi : i = nI j) (hj : j < L) (hL : L < 2147483648) (hb1 : 400 ≤ b) (hbs : q_sh h b = (1, 0, L2))
    (hJ : q_K g M xt d mc ms h0 mv Q k n (pos + 1, ls, r, (q_nx h, q_sh h, q_I h, q_u2 (q_R h) a j (some b), q_E h, q_L h))) : q_K g M xt d mc ms h0 mv Q k n (pos, ls, .ref b :: .int i :: .ref a :: r, h) := by
  obtain rfl : ln = 1 := (q_atB hok he).2.2.1 (Nat.succ_ne_zero _)
  intro p e s m args below meth cd D cA ρ0 ρ A H locs rls en hen hB hS
  cases he.symm.trans hen
  obtain ⟨hd, hnx, -, ho2⟩ := q_atB hok he
  obtain ⟨en', he', hpc⟩ := hnx rfl
  obtain ⟨hx, hb, hr, hml, hts, hown, hlk, hnm, hxt⟩ := id hB
  obtain ⟨hK, hW, hVS, hX, hC, hst, hls, hlh, hag, hag2, hA, hnx0⟩ := id hS
  have ha2 : a < q_nx h := q_lt hC hsh (by decide)
  obtain ⟨ws, e9, e1, e2, hP, hD, hat, hcr⟩ := q_Wd_at hW ha ha2
  rw [hsh] at hcr
  have hcr : e9 = _ := hcr
  rw [hcr] at hat
  subst hi
  have hin : vp_in (nI j) L := vp_in_nI hj hL
  have hb2 : b < q_nx h := q_lt hC hbs (by decide)
  obtain ⟨ws9, e8, f1, f2, hP9, hD9, hat9, hcr9⟩ := q_Wd_at hW hb1 hb2
  rw [hbs] at hcr9
  have hcr9 : e8 = _ := hcr9
  rw [hcr9] at hat9
  have hX9 := id hX
  obtain ⟨-, -, -, -, -, -, -, -, -, -, -, -, -, -, -, -, ⟨-, -, -, hO5⟩, -, -⟩ := hX9
  obtain ⟨comp, c9, k9, g1, g2, g3, g4, g5⟩ := arrayOverA_spec hO5
  have hc9 : c9 = cA 7 := Option.some.inj (g5.symm.trans (hK.2 7 (cA 7, .array .int) rfl).2)
  subst hc9
  have hcp : comp = cA 0 := Option.some.inj (g1.symm.trans (hK.2 0 (cA 0, .int) rfl).2)
  subst hcp
  obtain ⟨kE, hkE, -⟩ := Vm.findClass_spec g1
  have hlt : (nI j).toNatClampNeg < L := by rw [nI_clamp (by omega)]; exact hj
  refine W.aast (t := .array .int) hx hb (hP (a - 400) _ hat) (fun q h => by cases h) (fun h => by cases h) g3 g4 rfl hkE ⟨nI_pos (by omega), by show _ < (arrV _ _ _).slots.size; rw [arrV_size]; exact hlt⟩ (hP9 _ _ hat9) (fun q h => by cases h) hkE (va_asg _ _) (g := F0 m pc rls (.ref (ρ b) :: .int (nI j) :: .ref (ρ a) :: r.map (q_vz ρ))) rfl rfl hd fun H1 eq9 z oq => ?_
  have hP1 : va_P D vwCl (ws.set (a - 400) (ρ a, .inl (cA 7, L, .inr (.inr (.inr (.inr (va_up (fun i => (q_R h a i).map ρ) (nI j).toNatClampNeg (some (ρ b))))))))) H1 := hP.set hD hat (by
    show H1[ρ a]? = some (vp_cell _ _)
    rw [eq9]
    rw [vp_cell_q, vp_cell_q, arrV_store]
    congr 2
    funext q
    by_cases hq : q = (nI j).toNatClampNeg
    · subst hq
      simp [updV, va_up, va_rf]
    · simp [updV, va_up, hq]) oq
  have hD1 : va_D A (ws.set (a - 400) (ρ a, .inl (cA 7, L, .inr (.inr (.inr (.inr (va_up (fun i => (q_R h a i).map ρ) (nI j).toNatClampNeg (some (ρ b))))))))) := hD.set hat
  have hS1 := hVS.put (k := (nI j).toNatClampNeg) z oq (hD.2 (a - 400) _ hat)
  rw [nI_clamp (by omega)] at hP1 hD1
  have hW1 : q_Wd D cA ρ (q_nx h, q_sh h, q_I h, q_u2 (q_R h) a j (some b), q_E h, q_L h) A H1 := by
    refine q_Wd_set e1 e2 ha ha2 rfl rfl (fun b hb => ⟨rfl, q_u2_row _ _ _ _ _ hb, rfl, rfl⟩) ?_ hP1 hD1
    show q_cr cA ρ _ a _ (q_sh h a)
    rw [hsh]
    refine congrArg (fun f => (Sum.inl (cA 7, L, Sum.inr (Sum.inr (Sum.inr (Sum.inr f)))) : va_E)) (funext fun i9 => ?_)
    show va_up (fun i => (q_R h a i).map ρ) j (some (ρ b)) i9 = (q_u2 (q_R h) a j (some b) a i9).map ρ
    rw [q_u2_of]; unfold va_up
    by_cases hij : i9 = j <;> simp [hij]
  have h9 := hJ p e s m args below meth cd D cA ρ0 ρ A H1 _ rls en' he' hB ⟨hK, hW1, hS1, hX, ⟨fun a8 j8 b8 h8 => by
      rw [show q_R (q_nx h, q_sh h, q_I h, q_u2 (q_R h) a j (some b), q_E h, q_L h) a8 j8 = q_u2 (q_R h) a j (some b) a8 j8 from rfl, q_u2_of] at h8
      split at h8
      · cases h8; exact q_hd hst _ rfl
      · exact hC.1 _ _ _ h8, hC.2⟩, q_tl (q_tl (q_tl hst)), hls, hlh, hag, hag2, hA, hnx0⟩
  rw [hpc] at h9
  exact h9
theorem k_o_aastStrC {i : Int32} {b : Nat} (hok : q_okB M = true) (he : q_nth M.2.2.2.2.1 pos = some (pc, .aastore, ln, a1, a2, w1, w2)) (ha : 400 ≤ a) (hsh : q_sh h a = (3, 8, L)) (hi : i = nI j) (hj : j < L) (hL : L < 2147483648) (hb1 : q_isStr b = true) (hbs : b < 300)
    (hJ : q_K g M xt d mc ms h0 mv Q k n (pos + 1, ls, r, (q_nx h, q_sh h, q_I h, q_u2 (q_R h) a j (some b), q_E h, q_L h))) : q_K g M xt d mc ms h0 mv Q k n (pos, ls, .ref b :: .int i :: .ref a :: r, h) := by
  obtain rfl : ln = 1 := (q_atB hok he).2.2.1 (Nat.succ_ne_zero _)
  intro p e s m args below meth cd D cA ρ0 ρ A H locs rls en hen hB hS
  cases he.symm.trans hen
  obtain ⟨hd, hnx, -, ho2⟩ := q_atB hok he
  obtain ⟨en', he', hpc⟩ := hnx rfl
  obtain ⟨hx, hb, hr, hml, hts, hown, hlk, hnm, hxt⟩ := id hB
  obtain ⟨hK, hW, hVS, hX, hC, hst, hls, hlh, hag, hag2, hA, hnx0⟩ := id hS
  have ha2 : a < q_nx h := q_lt hC hsh (by decide)
  obtain ⟨ws, e9, e1, e2, hP, hD, hat, hcr⟩ := q_Wd_at hW ha ha2
  rw [hsh] at hcr
  have hcr : e9 = _ := hcr
  rw [hcr] at hat
  subst hi
  have hin : vp_in (nI j) L := vp_in_nI hj hL
  have hany : va_Any "java/lang/String" s H (ρ b) := by
    obtain ⟨cell, u1, u2, u3, u4⟩ := q_strO hb1 _ _ _ _ hX
    have hcell : H[ρ b]? = some cell := by
      rw [hag2 b (by omega), hVS.2.1 _ (Array.getElem?_eq_some_iff.mp u1).1 u4]
      exact u1
    obtain ⟨kE, hkE, -⟩ := Vm.findClass_spec u3
    exact ⟨cell, hcell, u2, ⟨kE, hkE⟩, fun comp h1 => by cases h1.symm.trans u3; exact va_asg _ _⟩
  refine va_astqM hx hb hK hP hD hVS (a - 400) 8 (E := "java/lang/String") hat rfl hany hin hd (fun H1 locs1 hP1 hD1 hS1 => ?_)
  rw [nI_clamp (by omega)] at hP1 hD1
  have hW1 : q_Wd D cA ρ (q_nx h, q_sh h, q_I h, q_u2 (q_R h) a j (some b), q_E h, q_L h) A H1 := by
    refine q_Wd_set e1 e2 ha ha2 rfl rfl (fun b hb => ⟨rfl, q_u2_row _ _ _ _ _ hb, rfl, rfl⟩) ?_ hP1 hD1
    show q_cr cA ρ _ a _ (q_sh h a)
    rw [hsh]
    refine congrArg (fun f => (Sum.inl (cA 8, L, Sum.inr (Sum.inr (Sum.inr (Sum.inr f)))) : va_E)) (funext fun i9 => ?_)
    show va_up (fun i => (q_R h a i).map ρ) j (some (ρ b)) i9 = (q_u2 (q_R h) a j (some b) a i9).map ρ
    rw [q_u2_of]; unfold va_up
    by_cases hij : i9 = j <;> simp [hij]
  have h9 := hJ p e s m args below meth cd D cA ρ0 ρ A H1 locs1 rls en' he' hB ⟨hK, hW1, hS1, hX, ⟨fun a8 j8 b8 h8 => by
      rw [show q_R (q_nx h, q_sh h, q_I h, q_u2 (q_R h) a j (some b), q_E h, q_L h) a8 j8 = q_u2 (q_R h) a j (some b) a8 j8 from rfl, q_u2_of] at h8
      split at h8
      · cases h8; exact q_hd hst _ rfl
      · exact hC.1 _ _ _ h8, hC.2⟩, q_tl (q_tl (q_tl hst)), hls, hlh, hag, hag2, hA, hnx0⟩
  rw [hpc] at h9
  exact h9
end KDYN3
